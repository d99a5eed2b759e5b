section
-- ===== PART A: goes FIRST, ahead of the names: the tables' words, and 'selects' of the private methods out of them =====
/-- a private method of a class that the tables say can be made, by its rows of tables_1 -/
def lw_okq (q : MethodName × Nat) : Prop := (q.1.cls ≠ "java/lang/invoke/MethodHandle" ∧ q.1.cls ≠ "java/lang/invoke/VarHandle") ∧ Cond.instantiable q.1.cls q.2 ∈ tables_1 ∧ Cond.privateMethod q.1 ∈ tables_1 ∧ Cond.instanceMethod q.1 ∈ tables_1
theorem lw_p0 : lw_okq (⟨"PrefixLeader$Lines", "write", "(IIII)V"⟩, 5) := ⟨⟨by decide +kernel, by decide +kernel⟩, List.mem_of_getElem? (i := 22) (by decide +kernel), List.mem_of_getElem? (i := 245) (by decide +kernel), List.mem_of_getElem? (i := 246) (by decide +kernel)⟩
theorem lw_p1 : lw_okq (⟨"PrefixLeader", "becomeLeast", "(LPrefixLeader$Lines;LPrefixLeader$Lines;)I"⟩, 9) := ⟨⟨by decide +kernel, by decide +kernel⟩, List.mem_of_getElem? (i := 13) (by decide +kernel), List.mem_of_getElem? (i := 303) (by decide +kernel), List.mem_of_getElem? (i := 304) (by decide +kernel)⟩
theorem lw_p2 : lw_okq (⟨"PrefixLeader$Tree", "grow", "(LPrefixLeader$Lines;IIIII)I"⟩, 7) := ⟨⟨by decide +kernel, by decide +kernel⟩, List.mem_of_getElem? (i := 63) (by decide +kernel), List.mem_of_getElem? (i := 311) (by decide +kernel), List.mem_of_getElem? (i := 312) (by decide +kernel)⟩
theorem lw_p3 : lw_okq (⟨"PrefixLeader$Tree", "growSide", "(LPrefixLeader$Lines;III)I"⟩, 7) := ⟨⟨by decide +kernel, by decide +kernel⟩, List.mem_of_getElem? (i := 63) (by decide +kernel), List.mem_of_getElem? (i := 324) (by decide +kernel), List.mem_of_getElem? (i := 325) (by decide +kernel)⟩
theorem lw_p4 : lw_okq (⟨"PrefixLeader$Tree", "setOfSide", "(II)I"⟩, 7) := ⟨⟨by decide +kernel, by decide +kernel⟩, List.mem_of_getElem? (i := 63) (by decide +kernel), List.mem_of_getElem? (i := 337) (by decide +kernel), List.mem_of_getElem? (i := 338) (by decide +kernel)⟩
theorem lw_p5 : lw_okq (⟨"PrefixLeader$Tree", "writeNode", "(LPrefixLeader$Lines;III)V"⟩, 7) := ⟨⟨by decide +kernel, by decide +kernel⟩, List.mem_of_getElem? (i := 63) (by decide +kernel), List.mem_of_getElem? (i := 352) (by decide +kernel), List.mem_of_getElem? (i := 353) (by decide +kernel)⟩
theorem lw_p6 : lw_okq (⟨"PrefixLeader$Tree", "writeSide", "(LPrefixLeader$Lines;IIIII)V"⟩, 7) := ⟨⟨by decide +kernel, by decide +kernel⟩, List.mem_of_getElem? (i := 63) (by decide +kernel), List.mem_of_getElem? (i := 366) (by decide +kernel), List.mem_of_getElem? (i := 367) (by decide +kernel)⟩
theorem lw_p7 : lw_okq (⟨"PrefixLeader$Tree", "writeWithTwin", "(LPrefixLeader$Lines;IIII)V"⟩, 7) := ⟨⟨by decide +kernel, by decide +kernel⟩, List.mem_of_getElem? (i := 63) (by decide +kernel), List.mem_of_getElem? (i := 370) (by decide +kernel), List.mem_of_getElem? (i := 371) (by decide +kernel)⟩
theorem lw_p8 : lw_okq (⟨"PrefixLeader$Spans", "reachStart", "(LPrefixLeader$Lines;J)V"⟩, 6) := ⟨⟨by decide +kernel, by decide +kernel⟩, List.mem_of_getElem? (i := 92) (by decide +kernel), List.mem_of_getElem? (i := 400) (by decide +kernel), List.mem_of_getElem? (i := 401) (by decide +kernel)⟩
theorem lw_p9 : lw_okq (⟨"PrefixLeader$Spans", "reach", "(JI)V"⟩, 6) := ⟨⟨by decide +kernel, by decide +kernel⟩, List.mem_of_getElem? (i := 92) (by decide +kernel), List.mem_of_getElem? (i := 409) (by decide +kernel), List.mem_of_getElem? (i := 410) (by decide +kernel)⟩
theorem lw_p10 : lw_okq (⟨"PrefixLeader", "measureDifference", "(II)V"⟩, 9) := ⟨⟨by decide +kernel, by decide +kernel⟩, List.mem_of_getElem? (i := 13) (by decide +kernel), List.mem_of_getElem? (i := 440) (by decide +kernel), List.mem_of_getElem? (i := 441) (by decide +kernel)⟩
theorem lw_p11 : lw_okq (⟨"PrefixLeader$Way", "appendPuts", "(LPrefixLeader$Lines;LPrefixLeader$Lines;I)V"⟩, 5) := ⟨⟨by decide +kernel, by decide +kernel⟩, List.mem_of_getElem? (i := 153) (by decide +kernel), List.mem_of_getElem? (i := 507) (by decide +kernel), List.mem_of_getElem? (i := 508) (by decide +kernel)⟩
theorem lw_p12 : lw_okq (⟨"PrefixLeader$Way", "appendDrops", "(LPrefixLeader$Lines;LPrefixLeader$Lines;I)V"⟩, 5) := ⟨⟨by decide +kernel, by decide +kernel⟩, List.mem_of_getElem? (i := 153) (by decide +kernel), List.mem_of_getElem? (i := 517) (by decide +kernel), List.mem_of_getElem? (i := 518) (by decide +kernel)⟩
theorem lw_p13 : lw_okq (⟨"PrefixLeader$Way", "noteHolders", "(LPrefixLeader$Lines;IIZ)V"⟩, 5) := ⟨⟨by decide +kernel, by decide +kernel⟩, List.mem_of_getElem? (i := 153) (by decide +kernel), List.mem_of_getElem? (i := 543) (by decide +kernel), List.mem_of_getElem? (i := 544) (by decide +kernel)⟩
theorem lw_p14 : lw_okq (⟨"PrefixLeaderModel", "at", "(IJI)I"⟩, 34) := ⟨⟨by decide +kernel, by decide +kernel⟩, List.mem_of_getElem? (i := 583) (by decide +kernel), List.mem_of_getElem? (i := 712) (by decide +kernel), List.mem_of_getElem? (i := 713) (by decide +kernel)⟩
theorem lw_p15 : lw_okq (⟨"PrefixLeaderModel", "comes", "(IJII)V"⟩, 34) := ⟨⟨by decide +kernel, by decide +kernel⟩, List.mem_of_getElem? (i := 583) (by decide +kernel), List.mem_of_getElem? (i := 716) (by decide +kernel), List.mem_of_getElem? (i := 717) (by decide +kernel)⟩
def lw_privs_1 : List (MethodName × Nat) := [(⟨"PrefixLeader$Lines", "write", "(IIII)V"⟩, 5), (⟨"PrefixLeader", "becomeLeast", "(LPrefixLeader$Lines;LPrefixLeader$Lines;)I"⟩, 9), (⟨"PrefixLeader$Tree", "grow", "(LPrefixLeader$Lines;IIIII)I"⟩, 7), (⟨"PrefixLeader$Tree", "growSide", "(LPrefixLeader$Lines;III)I"⟩, 7), (⟨"PrefixLeader$Tree", "setOfSide", "(II)I"⟩, 7), (⟨"PrefixLeader$Tree", "writeNode", "(LPrefixLeader$Lines;III)V"⟩, 7), (⟨"PrefixLeader$Tree", "writeSide", "(LPrefixLeader$Lines;IIIII)V"⟩, 7), (⟨"PrefixLeader$Tree", "writeWithTwin", "(LPrefixLeader$Lines;IIII)V"⟩, 7), (⟨"PrefixLeader$Spans", "reachStart", "(LPrefixLeader$Lines;J)V"⟩, 6), (⟨"PrefixLeader$Spans", "reach", "(JI)V"⟩, 6), (⟨"PrefixLeader", "measureDifference", "(II)V"⟩, 9), (⟨"PrefixLeader$Way", "appendPuts", "(LPrefixLeader$Lines;LPrefixLeader$Lines;I)V"⟩, 5), (⟨"PrefixLeader$Way", "appendDrops", "(LPrefixLeader$Lines;LPrefixLeader$Lines;I)V"⟩, 5), (⟨"PrefixLeader$Way", "noteHolders", "(LPrefixLeader$Lines;IIZ)V"⟩, 5), (⟨"PrefixLeaderModel", "at", "(IJI)I"⟩, 34), (⟨"PrefixLeaderModel", "comes", "(IJII)V"⟩, 34)]
theorem lw_r1 : ∀ q ∈ lw_privs_1, lw_okq q := List.forall_mem_cons.mpr ⟨lw_p0, List.forall_mem_cons.mpr ⟨lw_p1, List.forall_mem_cons.mpr ⟨lw_p2, List.forall_mem_cons.mpr ⟨lw_p3, List.forall_mem_cons.mpr ⟨lw_p4, List.forall_mem_cons.mpr ⟨lw_p5, List.forall_mem_cons.mpr ⟨lw_p6, List.forall_mem_cons.mpr ⟨lw_p7, List.forall_mem_cons.mpr ⟨lw_p8, List.forall_mem_cons.mpr ⟨lw_p9, List.forall_mem_cons.mpr ⟨lw_p10, List.forall_mem_cons.mpr ⟨lw_p11, List.forall_mem_cons.mpr ⟨lw_p12, List.forall_mem_cons.mpr ⟨lw_p13, List.forall_mem_cons.mpr ⟨lw_p14, List.forall_mem_cons.mpr ⟨lw_p15, fun _ h => absurd h List.not_mem_nil⟩⟩⟩⟩⟩⟩⟩⟩⟩⟩⟩⟩⟩⟩⟩⟩
theorem lw_p16 : lw_okq (⟨"PrefixLeaderModel", "moves", "(III)V"⟩, 34) := ⟨⟨by decide +kernel, by decide +kernel⟩, List.mem_of_getElem? (i := 583) (by decide +kernel), List.mem_of_getElem? (i := 720) (by decide +kernel), List.mem_of_getElem? (i := 721) (by decide +kernel)⟩
theorem lw_p17 : lw_okq (⟨"PrefixLeaderModel", "leads", "(IJ)I"⟩, 34) := ⟨⟨by decide +kernel, by decide +kernel⟩, List.mem_of_getElem? (i := 583) (by decide +kernel), List.mem_of_getElem? (i := 745) (by decide +kernel), List.mem_of_getElem? (i := 746) (by decide +kernel)⟩
theorem lw_p18 : lw_okq (⟨"PrefixLeaderModel", "best", "(IJ)I"⟩, 34) := ⟨⟨by decide +kernel, by decide +kernel⟩, List.mem_of_getElem? (i := 583) (by decide +kernel), List.mem_of_getElem? (i := 749) (by decide +kernel), List.mem_of_getElem? (i := 750) (by decide +kernel)⟩
theorem lw_p19 : lw_okq (⟨"PrefixLeaderModel", "makeSpans", "(III)V"⟩, 34) := ⟨⟨by decide +kernel, by decide +kernel⟩, List.mem_of_getElem? (i := 583) (by decide +kernel), List.mem_of_getElem? (i := 764) (by decide +kernel), List.mem_of_getElem? (i := 765) (by decide +kernel)⟩
theorem lw_p20 : lw_okq (⟨"PrefixLeaderModel", "cuts", "(J)V"⟩, 34) := ⟨⟨by decide +kernel, by decide +kernel⟩, List.mem_of_getElem? (i := 583) (by decide +kernel), List.mem_of_getElem? (i := 768) (by decide +kernel), List.mem_of_getElem? (i := 769) (by decide +kernel)⟩
theorem lw_p21 : lw_okq (⟨"PrefixLeaderModel", "cutsOf", "(I)V"⟩, 34) := ⟨⟨by decide +kernel, by decide +kernel⟩, List.mem_of_getElem? (i := 583) (by decide +kernel), List.mem_of_getElem? (i := 773) (by decide +kernel), List.mem_of_getElem? (i := 774) (by decide +kernel)⟩
theorem lw_p22 : lw_okq (⟨"PrefixLeaderModel", "leads", "(IIIJ)I"⟩, 34) := ⟨⟨by decide +kernel, by decide +kernel⟩, List.mem_of_getElem? (i := 583) (by decide +kernel), List.mem_of_getElem? (i := 777) (by decide +kernel), List.mem_of_getElem? (i := 778) (by decide +kernel)⟩
theorem lw_p23 : lw_okq (⟨"PrefixLeaderModel", "end", "(I)J"⟩, 34) := ⟨⟨by decide +kernel, by decide +kernel⟩, List.mem_of_getElem? (i := 583) (by decide +kernel), List.mem_of_getElem? (i := 785) (by decide +kernel), List.mem_of_getElem? (i := 786) (by decide +kernel)⟩
theorem lw_p24 : lw_okq (⟨"PrefixLeaderModel", "makeSets", "()V"⟩, 34) := ⟨⟨by decide +kernel, by decide +kernel⟩, List.mem_of_getElem? (i := 583) (by decide +kernel), List.mem_of_getElem? (i := 806) (by decide +kernel), List.mem_of_getElem? (i := 807) (by decide +kernel)⟩
theorem lw_p25 : lw_okq (⟨"PrefixLeaderModel", "mixedAt", "(JI)I"⟩, 34) := ⟨⟨by decide +kernel, by decide +kernel⟩, List.mem_of_getElem? (i := 583) (by decide +kernel), List.mem_of_getElem? (i := 810) (by decide +kernel), List.mem_of_getElem? (i := 811) (by decide +kernel)⟩
theorem lw_p26 : lw_okq (⟨"PrefixLeaderModel", "setOf", "(JI)I"⟩, 34) := ⟨⟨by decide +kernel, by decide +kernel⟩, List.mem_of_getElem? (i := 583) (by decide +kernel), List.mem_of_getElem? (i := 814) (by decide +kernel), List.mem_of_getElem? (i := 815) (by decide +kernel)⟩
theorem lw_p27 : lw_okq (⟨"PrefixLeaderModel", "isOne", "(JI)Z"⟩, 34) := ⟨⟨by decide +kernel, by decide +kernel⟩, List.mem_of_getElem? (i := 583) (by decide +kernel), List.mem_of_getElem? (i := 818) (by decide +kernel), List.mem_of_getElem? (i := 819) (by decide +kernel)⟩
theorem lw_p28 : lw_okq (⟨"PrefixLeaderModel", "spanOf", "(J)I"⟩, 34) := ⟨⟨by decide +kernel, by decide +kernel⟩, List.mem_of_getElem? (i := 583) (by decide +kernel), List.mem_of_getElem? (i := 822) (by decide +kernel), List.mem_of_getElem? (i := 823) (by decide +kernel)⟩
theorem lw_p29 : lw_okq (⟨"PrefixLeaderModel", "makeLeast", "()I"⟩, 34) := ⟨⟨by decide +kernel, by decide +kernel⟩, List.mem_of_getElem? (i := 583) (by decide +kernel), List.mem_of_getElem? (i := 830) (by decide +kernel), List.mem_of_getElem? (i := 831) (by decide +kernel)⟩
theorem lw_p30 : lw_okq (⟨"PrefixLeaderModel", "becomes", "(I)I"⟩, 34) := ⟨⟨by decide +kernel, by decide +kernel⟩, List.mem_of_getElem? (i := 583) (by decide +kernel), List.mem_of_getElem? (i := 837) (by decide +kernel), List.mem_of_getElem? (i := 838) (by decide +kernel)⟩
theorem lw_p31 : lw_okq (⟨"PrefixLeaderModel", "step", "(IJII)V"⟩, 34) := ⟨⟨by decide +kernel, by decide +kernel⟩, List.mem_of_getElem? (i := 583) (by decide +kernel), List.mem_of_getElem? (i := 857) (by decide +kernel), List.mem_of_getElem? (i := 858) (by decide +kernel)⟩
def lw_privs_2 : List (MethodName × Nat) := [(⟨"PrefixLeaderModel", "moves", "(III)V"⟩, 34), (⟨"PrefixLeaderModel", "leads", "(IJ)I"⟩, 34), (⟨"PrefixLeaderModel", "best", "(IJ)I"⟩, 34), (⟨"PrefixLeaderModel", "makeSpans", "(III)V"⟩, 34), (⟨"PrefixLeaderModel", "cuts", "(J)V"⟩, 34), (⟨"PrefixLeaderModel", "cutsOf", "(I)V"⟩, 34), (⟨"PrefixLeaderModel", "leads", "(IIIJ)I"⟩, 34), (⟨"PrefixLeaderModel", "end", "(I)J"⟩, 34), (⟨"PrefixLeaderModel", "makeSets", "()V"⟩, 34), (⟨"PrefixLeaderModel", "mixedAt", "(JI)I"⟩, 34), (⟨"PrefixLeaderModel", "setOf", "(JI)I"⟩, 34), (⟨"PrefixLeaderModel", "isOne", "(JI)Z"⟩, 34), (⟨"PrefixLeaderModel", "spanOf", "(J)I"⟩, 34), (⟨"PrefixLeaderModel", "makeLeast", "()I"⟩, 34), (⟨"PrefixLeaderModel", "becomes", "(I)I"⟩, 34), (⟨"PrefixLeaderModel", "step", "(IJII)V"⟩, 34)]
theorem lw_r2 : ∀ q ∈ lw_privs_2, lw_okq q := List.forall_mem_cons.mpr ⟨lw_p16, List.forall_mem_cons.mpr ⟨lw_p17, List.forall_mem_cons.mpr ⟨lw_p18, List.forall_mem_cons.mpr ⟨lw_p19, List.forall_mem_cons.mpr ⟨lw_p20, List.forall_mem_cons.mpr ⟨lw_p21, List.forall_mem_cons.mpr ⟨lw_p22, List.forall_mem_cons.mpr ⟨lw_p23, List.forall_mem_cons.mpr ⟨lw_p24, List.forall_mem_cons.mpr ⟨lw_p25, List.forall_mem_cons.mpr ⟨lw_p26, List.forall_mem_cons.mpr ⟨lw_p27, List.forall_mem_cons.mpr ⟨lw_p28, List.forall_mem_cons.mpr ⟨lw_p29, List.forall_mem_cons.mpr ⟨lw_p30, List.forall_mem_cons.mpr ⟨lw_p31, fun _ h => absurd h List.not_mem_nil⟩⟩⟩⟩⟩⟩⟩⟩⟩⟩⟩⟩⟩⟩⟩⟩
theorem lw_p32 : lw_okq (⟨"PrefixLeaderModel", "done", "(IJI)I"⟩, 34) := ⟨⟨by decide +kernel, by decide +kernel⟩, List.mem_of_getElem? (i := 583) (by decide +kernel), List.mem_of_getElem? (i := 869) (by decide +kernel), List.mem_of_getElem? (i := 870) (by decide +kernel)⟩
theorem lw_p33 : lw_okq (⟨"PrefixLeaderModel", "strides", "(I)V"⟩, 34) := ⟨⟨by decide +kernel, by decide +kernel⟩, List.mem_of_getElem? (i := 583) (by decide +kernel), List.mem_of_getElem? (i := 877) (by decide +kernel), List.mem_of_getElem? (i := 878) (by decide +kernel)⟩
theorem lw_p34 : lw_okq (⟨"PrefixLeaderModel", "counts", "(JI)V"⟩, 34) := ⟨⟨by decide +kernel, by decide +kernel⟩, List.mem_of_getElem? (i := 583) (by decide +kernel), List.mem_of_getElem? (i := 881) (by decide +kernel), List.mem_of_getElem? (i := 882) (by decide +kernel)⟩
theorem lw_p35 : lw_okq (⟨"PrefixLeaderModel", "pressed", "(I)V"⟩, 34) := ⟨⟨by decide +kernel, by decide +kernel⟩, List.mem_of_getElem? (i := 583) (by decide +kernel), List.mem_of_getElem? (i := 889) (by decide +kernel), List.mem_of_getElem? (i := 890) (by decide +kernel)⟩
def lw_privs_3 : List (MethodName × Nat) := [(⟨"PrefixLeaderModel", "done", "(IJI)I"⟩, 34), (⟨"PrefixLeaderModel", "strides", "(I)V"⟩, 34), (⟨"PrefixLeaderModel", "counts", "(JI)V"⟩, 34), (⟨"PrefixLeaderModel", "pressed", "(I)V"⟩, 34)]
theorem lw_r3 : ∀ q ∈ lw_privs_3, lw_okq q := List.forall_mem_cons.mpr ⟨lw_p32, List.forall_mem_cons.mpr ⟨lw_p33, List.forall_mem_cons.mpr ⟨lw_p34, List.forall_mem_cons.mpr ⟨lw_p35, fun _ h => absurd h List.not_mem_nil⟩⟩⟩⟩
def lw_privs : List (MethodName × Nat) := lw_privs_1 ++ (lw_privs_2 ++ (lw_privs_3))
def lw_tbl : List Cond := k2_sels lw_privs ++ tables_1
theorem lw_privs_ok : ∀ q ∈ lw_privs, lw_okq q := by
  show ∀ q ∈ lw_privs_1 ++ (lw_privs_2 ++ (lw_privs_3)), lw_okq q
  exact List.forall_mem_append.mpr ⟨lw_r1, List.forall_mem_append.mpr ⟨lw_r2, lw_r3⟩⟩
end
section
/-! ===== BEGIN words of one list among another's, by their places ===== -/
theorem goodIn_r {big : List Cond} (ws : List Cond) (ps : List Nat) (hp : ws = ps.filterMap (fun i => big[i]?)) (h : ws.all goodWord = true) : GoodIn big ws := by
  intro w hw
  have h1 := List.all_eq_true.mp h w hw
  rw [hp] at hw
  obtain ⟨i, -, hi⟩ := List.mem_filterMap.mp hw
  have hm : w ∈ big := by first | exact List.mem_of_getElem? hi | exact List.getElem?_mem hi
  exact ⟨hm, good_of_word h1⟩
theorem goodIn_app {big a b : List Cond} (ha : GoodIn big a) (hb : GoodIn big b) : GoodIn big (a ++ b) := fun w h => (List.mem_append.mp h).elim (ha w) (hb w)
theorem goodIn_ca {big a b : List Cond} {c : Cond} (ha : GoodIn big (c :: a)) (hb : GoodIn big b) : GoodIn big (c :: (a ++ b)) := fun w h => (List.mem_cons.mp h).elim (fun e => ha w (List.mem_cons.mpr (Or.inl e))) (fun h => (List.mem_append.mp h).elim (fun h => ha w (List.mem_cons.mpr (Or.inr h))) (hb w))
theorem goodIn_sub {big ws : List Cond} (hm : ∀ w ∈ ws, w ∈ big) (h : ws.all goodWord = true) : GoodIn big ws := fun w hw => ⟨hm w hw, good_of_word (List.all_eq_true.mp h w hw)⟩
/-! ===== END ===== -/

/-! ===== BEGIN printed: names, fields, word lists, decode rows ===== -/
def RX0 : String := "PrefixLeader$Cover"
def TX0 : u_T := fun k => match k with
  | 0 => ("PrefixLeader$Cover", "address", "[J", true)
  | 1 => ("PrefixLeader$Cover", "bits", "[I", true)
  | _ => ("PrefixLeader$Cover", "size", "I", false)
def tyX0 : Nat → FieldType := fun k => match k with
  | 0 => .array .long
  | 1 => .array .int
  | _ => .int
abbrev wsX00 : List Cond := u_ws RX0 TX0 3
theorem nmX0 : ∀ a, a < 3 → ∀ b, b < 3 → a ≠ b → (TX0 a).2.1 ≠ (TX0 b).2.1 := by decide +kernel
theorem tyX0_ok : ∀ k, k < 3 → parseFieldDescriptor (TX0 k).2.2.1 = some (tyX0 k) := by decide +kernel
abbrev cX0_init : ByteArray := prog_2_method_1_code
def yX0_init : MethodName := ⟨RX0, "<init>", "()V"⟩
abbrev cX0_make : ByteArray := prog_2_method_2_code
def yX0_make : MethodName := ⟨RX0, "make", "(JJ)V"⟩
abbrev cX0_fewestBits : ByteArray := prog_2_method_3_code
def yX0_fewestBits : MethodName := ⟨RX0, "fewestBits", "(JJ)I"⟩
abbrev cX0_addressesOf : ByteArray := prog_2_method_4_code
def yX0_addressesOf : MethodName := ⟨RX0, "addressesOf", "(I)J"⟩
abbrev cX0_tell : ByteArray := prog_2_method_5_code
def yX0_tell : MethodName := ⟨RX0, "tell", "(II)J"⟩
def RX1 : String := "PrefixLeader$Difference"
def TX1 : u_T := fun k => match k with
  | 0 => ("PrefixLeader$Difference", "start", "J", false)
  | _ => ("PrefixLeader$Difference", "amount", "J", false)
def tyX1 : Nat → FieldType := fun k => match k with
  | 0 => .long
  | _ => .long
abbrev wsX10 : List Cond := u_ws RX1 TX1 2
theorem nmX1 : ∀ a, a < 2 → ∀ b, b < 2 → a ≠ b → (TX1 a).2.1 ≠ (TX1 b).2.1 := by decide +kernel
theorem tyX1_ok : ∀ k, k < 2 → parseFieldDescriptor (TX1 k).2.2.1 = some (tyX1 k) := by decide +kernel
abbrev cX1_init : ByteArray := prog_3_method_1_code
def yX1_init : MethodName := ⟨RX1, "<init>", "()V"⟩
abbrev cX1_measure : ByteArray := prog_3_method_2_code
def yX1_measure : MethodName := ⟨RX1, "measure", "(LPrefixLeader$Spans;LPrefixLeader$Spans;)V"⟩
def RX2 : String := "PrefixLeader$Lines"
def TX2 : u_T := fun k => match k with
  | 0 => ("PrefixLeader$Lines", "address", "[I", true)
  | 1 => ("PrefixLeader$Lines", "bits", "[I", true)
  | 2 => ("PrefixLeader$Lines", "goal", "[I", true)
  | 3 => ("PrefixLeader$Lines", "room", "I", true)
  | _ => ("PrefixLeader$Lines", "size", "I", false)
def tyX2 : Nat → FieldType := fun k => match k with
  | 0 => .array .int
  | 1 => .array .int
  | 2 => .array .int
  | 3 => .int
  | _ => .int
abbrev wsX20 : List Cond := u_ws RX2 TX2 5
theorem nmX2 : ∀ a, a < 5 → ∀ b, b < 5 → a ≠ b → (TX2 a).2.1 ≠ (TX2 b).2.1 := by decide +kernel
theorem tyX2_ok : ∀ k, k < 5 → parseFieldDescriptor (TX2 k).2.2.1 = some (tyX2 k) := by decide +kernel
abbrev cX2_init : ByteArray := prog_4_method_1_code
def yX2_init : MethodName := ⟨RX2, "<init>", "(I)V"⟩
abbrev cX2_first : ByteArray := prog_4_method_2_code
def yX2_first : MethodName := ⟨RX2, "first", "(I)J"⟩
abbrev cX2_last : ByteArray := prog_4_method_3_code
def yX2_last : MethodName := ⟨RX2, "last", "(I)J"⟩
abbrev cX2_isAt : ByteArray := prog_4_method_4_code
def yX2_isAt : MethodName := ⟨RX2, "isAt", "(III)Z"⟩
abbrev cX2_hasBeginning : ByteArray := prog_4_method_5_code
def yX2_hasBeginning : MethodName := ⟨RX2, "hasBeginning", "(II)Z"⟩
abbrev cX2_hasLine : ByteArray := prog_4_method_6_code
def yX2_hasLine : MethodName := ⟨RX2, "hasLine", "(III)Z"⟩
abbrev cX2_placeOf : ByteArray := prog_4_method_7_code
def yX2_placeOf : MethodName := ⟨RX2, "placeOf", "(II)I"⟩
abbrev cX2_isAhead : ByteArray := prog_4_method_8_code
def yX2_isAhead : MethodName := ⟨RX2, "isAhead", "(III)Z"⟩
abbrev cX2_endOf : ByteArray := prog_4_method_9_code
def yX2_endOf : MethodName := ⟨RX2, "endOf", "(III)I"⟩
abbrev cX2_lastHolder : ByteArray := prog_4_method_10_code
def yX2_lastHolder : MethodName := ⟨RX2, "lastHolder", "(II)I"⟩
abbrev cX2_goalAmong : ByteArray := prog_4_method_11_code
def yX2_goalAmong : MethodName := ⟨RX2, "goalAmong", "(II)I"⟩
abbrev cX2_clear : ByteArray := prog_4_method_12_code
def yX2_clear : MethodName := ⟨RX2, "clear", "()V"⟩
abbrev cX2_append : ByteArray := prog_4_method_13_code
def yX2_append : MethodName := ⟨RX2, "append", "(III)V"⟩
abbrev cX2_insert : ByteArray := prog_4_method_14_code
def yX2_insert : MethodName := ⟨RX2, "insert", "(IIII)Z"⟩
abbrev cX2_removeAt : ByteArray := prog_4_method_15_code
def yX2_removeAt : MethodName := ⟨RX2, "removeAt", "(I)V"⟩
abbrev cX2_become : ByteArray := prog_4_method_16_code
def yX2_become : MethodName := ⟨RX2, "become", "(LPrefixLeader$Lines;)V"⟩
abbrev cX2_write : ByteArray := prog_4_method_17_code
def yX2_write : MethodName := ⟨RX2, "write", "(IIII)V"⟩
abbrev cX2_merge : ByteArray := prog_4_method_18_code
def yX2_merge : MethodName := ⟨RX2, "merge", "(LPrefixLeader$Lines;LPrefixLeader$Lines;I)V"⟩
abbrev cX2_mixed : ByteArray := prog_4_method_19_code
def yX2_mixed : MethodName := ⟨RX2, "mixed", "(III)I"⟩
abbrev cX2_commonBits : ByteArray := prog_4_method_20_code
def yX2_commonBits : MethodName := ⟨RX2, "commonBits", "(II)I"⟩
abbrev cX2_firstHigh : ByteArray := prog_4_method_21_code
def yX2_firstHigh : MethodName := ⟨RX2, "firstHigh", "(III)I"⟩
def RX3 : String := "PrefixLeader$Spans"
def TX3 : u_T := fun k => match k with
  | 0 => ("PrefixLeader$Spans", "first", "[J", true)
  | 1 => ("PrefixLeader$Spans", "goal", "[I", true)
  | 2 => ("PrefixLeader$Spans", "size", "I", false)
  | 3 => ("PrefixLeader$Spans", "reached", "J", false)
  | 4 => ("PrefixLeader$Spans", "open", "[I", true)
  | _ => ("PrefixLeader$Spans", "opened", "I", false)
def tyX3 : Nat → FieldType := fun k => match k with
  | 0 => .array .long
  | 1 => .array .int
  | 2 => .int
  | 3 => .long
  | 4 => .array .int
  | _ => .int
abbrev wsX30 : List Cond := u_ws RX3 TX3 6
theorem nmX3 : ∀ a, a < 6 → ∀ b, b < 6 → a ≠ b → (TX3 a).2.1 ≠ (TX3 b).2.1 := by decide +kernel
theorem tyX3_ok : ∀ k, k < 6 → parseFieldDescriptor (TX3 k).2.2.1 = some (tyX3 k) := by decide +kernel
abbrev cX3_init : ByteArray := prog_5_method_1_code
def yX3_init : MethodName := ⟨RX3, "<init>", "()V"⟩
abbrev cX3_measure : ByteArray := prog_5_method_2_code
def yX3_measure : MethodName := ⟨RX3, "measure", "(LPrefixLeader$Lines;)V"⟩
abbrev cX3_reachStart : ByteArray := prog_5_method_3_code
def yX3_reachStart : MethodName := ⟨RX3, "reachStart", "(LPrefixLeader$Lines;J)V"⟩
abbrev cX3_reach : ByteArray := prog_5_method_4_code
def yX3_reach : MethodName := ⟨RX3, "reach", "(JI)V"⟩
abbrev cX3_last : ByteArray := prog_5_method_5_code
def yX3_last : MethodName := ⟨RX3, "last", "(I)J"⟩
abbrev cX3_tell : ByteArray := prog_5_method_6_code
def yX3_tell : MethodName := ⟨RX3, "tell", "(II)J"⟩
abbrev cX3_addressesTo : ByteArray := prog_5_method_7_code
def yX3_addressesTo : MethodName := ⟨RX3, "addressesTo", "(I)J"⟩
def RX4 : String := "PrefixLeader$Strides"
def TX4 : u_T := fun k => match k with
  | _ => ("", "", "", false)
def tyX4 : Nat → FieldType := fun k => match k with
  | _ => .int
abbrev wsX40 : List Cond := u_ws RX4 TX4 0
theorem nmX4 : ∀ a, a < 0 → ∀ b, b < 0 → a ≠ b → (TX4 a).2.1 ≠ (TX4 b).2.1 := by decide +kernel
theorem tyX4_ok : ∀ k, k < 0 → parseFieldDescriptor (TX4 k).2.2.1 = some (tyX4 k) := by decide +kernel
abbrev cX4_nodesOf : ByteArray := prog_6_method_2_code
def yX4_nodesOf : MethodName := ⟨RX4, "nodesOf", "(LPrefixLeader$Lines;)I"⟩
abbrev cX4_nodesAt : ByteArray := prog_6_method_3_code
def yX4_nodesAt : MethodName := ⟨RX4, "nodesAt", "(LPrefixLeader$Lines;I)I"⟩
abbrev cX4_deepest : ByteArray := prog_6_method_4_code
def yX4_deepest : MethodName := ⟨RX4, "deepest", "(LPrefixLeader$Lines;)I"⟩
abbrev cX4_stepsDownTo : ByteArray := prog_6_method_5_code
def yX4_stepsDownTo : MethodName := ⟨RX4, "stepsDownTo", "(I)I"⟩
abbrev cX4_firstDeepest : ByteArray := prog_6_method_6_code
def yX4_firstDeepest : MethodName := ⟨RX4, "firstDeepest", "(LPrefixLeader$Lines;)J"⟩
abbrev cX4_stepsOf : ByteArray := prog_6_method_7_code
def yX4_stepsOf : MethodName := ⟨RX4, "stepsOf", "(LPrefixLeader$Lines;I)I"⟩
abbrev cX4_hasNode : ByteArray := prog_6_method_8_code
def yX4_hasNode : MethodName := ⟨RX4, "hasNode", "(LPrefixLeader$Lines;II)Z"⟩
def RX5 : String := "PrefixLeader$Tree"
def TX5 : u_T := fun k => match k with
  | 0 => ("PrefixLeader$Tree", "address", "[I", true)
  | 1 => ("PrefixLeader$Tree", "bits", "[I", true)
  | 2 => ("PrefixLeader$Tree", "goal", "[I", true)
  | 3 => ("PrefixLeader$Tree", "low", "[I", true)
  | 4 => ("PrefixLeader$Tree", "high", "[I", true)
  | 5 => ("PrefixLeader$Tree", "sets", "[I", true)
  | _ => ("PrefixLeader$Tree", "size", "I", false)
def tyX5 : Nat → FieldType := fun k => match k with
  | 0 => .array .int
  | 1 => .array .int
  | 2 => .array .int
  | 3 => .array .int
  | 4 => .array .int
  | 5 => .array .int
  | _ => .int
abbrev wsX50 : List Cond := u_ws RX5 TX5 7
theorem nmX5 : ∀ a, a < 7 → ∀ b, b < 7 → a ≠ b → (TX5 a).2.1 ≠ (TX5 b).2.1 := by decide +kernel
theorem tyX5_ok : ∀ k, k < 7 → parseFieldDescriptor (TX5 k).2.2.1 = some (tyX5 k) := by decide +kernel
abbrev cX5_init : ByteArray := prog_7_method_1_code
def yX5_init : MethodName := ⟨RX5, "<init>", "()V"⟩
abbrev cX5_plantWhole : ByteArray := prog_7_method_2_code
def yX5_plantWhole : MethodName := ⟨RX5, "plantWhole", "(LPrefixLeader$Lines;)V"⟩
abbrev cX5_plant : ByteArray := prog_7_method_3_code
def yX5_plant : MethodName := ⟨RX5, "plant", "(LPrefixLeader$Lines;IIIII)V"⟩
abbrev cX5_setOfTop : ByteArray := prog_7_method_4_code
def yX5_setOfTop : MethodName := ⟨RX5, "setOfTop", "()I"⟩
abbrev cX5_grow : ByteArray := prog_7_method_5_code
def yX5_grow : MethodName := ⟨RX5, "grow", "(LPrefixLeader$Lines;IIIII)I"⟩
abbrev cX5_growSide : ByteArray := prog_7_method_6_code
def yX5_growSide : MethodName := ⟨RX5, "growSide", "(LPrefixLeader$Lines;III)I"⟩
abbrev cX5_setOfSide : ByteArray := prog_7_method_7_code
def yX5_setOfSide : MethodName := ⟨RX5, "setOfSide", "(II)I"⟩
abbrev cX5_both : ByteArray := prog_7_method_8_code
def yX5_both : MethodName := ⟨RX5, "both", "(II)I"⟩
abbrev cX5_writeLeast : ByteArray := prog_7_method_9_code
def yX5_writeLeast : MethodName := ⟨RX5, "writeLeast", "(LPrefixLeader$Lines;)V"⟩
abbrev cX5_writeNode : ByteArray := prog_7_method_10_code
def yX5_writeNode : MethodName := ⟨RX5, "writeNode", "(LPrefixLeader$Lines;III)V"⟩
abbrev cX5_writeSide : ByteArray := prog_7_method_11_code
def yX5_writeSide : MethodName := ⟨RX5, "writeSide", "(LPrefixLeader$Lines;IIIII)V"⟩
abbrev cX5_writeWithTwin : ByteArray := prog_7_method_12_code
def yX5_writeWithTwin : MethodName := ⟨RX5, "writeWithTwin", "(LPrefixLeader$Lines;IIII)V"⟩
abbrev cX5_writeIfNeeded : ByteArray := prog_7_method_13_code
def yX5_writeIfNeeded : MethodName := ⟨RX5, "writeIfNeeded", "(LPrefixLeader$Lines;IIII)I"⟩
def RX6 : String := "PrefixLeader$Way"
def TX6 : u_T := fun k => match k with
  | 0 => ("PrefixLeader$Way", "start", "LPrefixLeader$Lines;", true)
  | 1 => ("PrefixLeader$Way", "puts", "LPrefixLeader$Lines;", true)
  | 2 => ("PrefixLeader$Way", "drops", "LPrefixLeader$Lines;", true)
  | 3 => ("PrefixLeader$Way", "goalByBits", "[I", true)
  | _ => ("PrefixLeader$Way", "size", "I", false)
def tyX6 : Nat → FieldType := fun k => match k with
  | 0 => .object "PrefixLeader$Lines"
  | 1 => .object "PrefixLeader$Lines"
  | 2 => .object "PrefixLeader$Lines"
  | 3 => .array .int
  | _ => .int
abbrev wsX60 : List Cond := u_ws RX6 TX6 5
theorem nmX6 : ∀ a, a < 5 → ∀ b, b < 5 → a ≠ b → (TX6 a).2.1 ≠ (TX6 b).2.1 := by decide +kernel
theorem tyX6_ok : ∀ k, k < 5 → parseFieldDescriptor (TX6 k).2.2.1 = some (tyX6 k) := by decide +kernel
abbrev cX6_init : ByteArray := prog_8_method_1_code
def yX6_init : MethodName := ⟨RX6, "<init>", "()V"⟩
abbrev cX6_lay : ByteArray := prog_8_method_2_code
def yX6_lay : MethodName := ⟨RX6, "lay", "(LPrefixLeader$Lines;LPrefixLeader$Lines;)V"⟩
abbrev cX6_appendPuts : ByteArray := prog_8_method_3_code
def yX6_appendPuts : MethodName := ⟨RX6, "appendPuts", "(LPrefixLeader$Lines;LPrefixLeader$Lines;I)V"⟩
abbrev cX6_appendDrops : ByteArray := prog_8_method_4_code
def yX6_appendDrops : MethodName := ⟨RX6, "appendDrops", "(LPrefixLeader$Lines;LPrefixLeader$Lines;I)V"⟩
abbrev cX6_tell : ByteArray := prog_8_method_5_code
def yX6_tell : MethodName := ⟨RX6, "tell", "(II)J"⟩
abbrev cX6_goalBehind : ByteArray := prog_8_method_6_code
def yX6_goalBehind : MethodName := ⟨RX6, "goalBehind", "(II)I"⟩
abbrev cX6_noteHolders : ByteArray := prog_8_method_7_code
def yX6_noteHolders : MethodName := ⟨RX6, "noteHolders", "(LPrefixLeader$Lines;IIZ)V"⟩
def RX7 : String := "PrefixLeader"
def TX7 : u_T := fun k => match k with
  | 0 => ("PrefixLeader", "books", "[LPrefixLeader$Lines;", true)
  | 1 => ("PrefixLeader", "together", "LPrefixLeader$Lines;", true)
  | 2 => ("PrefixLeader", "fewest", "LPrefixLeader$Lines;", true)
  | 3 => ("PrefixLeader", "tree", "LPrefixLeader$Tree;", true)
  | 4 => ("PrefixLeader", "spansOfOne", "LPrefixLeader$Spans;", true)
  | 5 => ("PrefixLeader", "spansOfOther", "LPrefixLeader$Spans;", true)
  | 6 => ("PrefixLeader", "difference", "LPrefixLeader$Difference;", true)
  | 7 => ("PrefixLeader", "latestCover", "LPrefixLeader$Cover;", true)
  | _ => ("PrefixLeader", "latestWay", "LPrefixLeader$Way;", true)
def tyX7 : Nat → FieldType := fun k => match k with
  | 0 => .array (.object "PrefixLeader$Lines")
  | 1 => .object "PrefixLeader$Lines"
  | 2 => .object "PrefixLeader$Lines"
  | 3 => .object "PrefixLeader$Tree"
  | 4 => .object "PrefixLeader$Spans"
  | 5 => .object "PrefixLeader$Spans"
  | 6 => .object "PrefixLeader$Difference"
  | 7 => .object "PrefixLeader$Cover"
  | _ => .object "PrefixLeader$Way"
abbrev wsX70 : List Cond := u_ws RX7 TX7 9
theorem nmX7 : ∀ a, a < 9 → ∀ b, b < 9 → a ≠ b → (TX7 a).2.1 ≠ (TX7 b).2.1 := by decide +kernel
theorem tyX7_ok : ∀ k, k < 9 → parseFieldDescriptor (TX7 k).2.2.1 = some (tyX7 k) := by decide +kernel
abbrev cX7_init : ByteArray := prog_1_method_1_code
def yX7_init : MethodName := ⟨RX7, "<init>", "()V"⟩
abbrev cX7_put : ByteArray := prog_1_method_2_code
def yX7_put : MethodName := ⟨RX7, "put", "(IIII)I"⟩
abbrev cX7_drop : ByteArray := prog_1_method_3_code
def yX7_drop : MethodName := ⟨RX7, "drop", "(III)Z"⟩
abbrev cX7_copy : ByteArray := prog_1_method_4_code
def yX7_copy : MethodName := ⟨RX7, "copy", "(II)I"⟩
abbrev cX7_count : ByteArray := prog_1_method_5_code
def yX7_count : MethodName := ⟨RX7, "count", "(I)I"⟩
abbrev cX7_line : ByteArray := prog_1_method_6_code
def yX7_line : MethodName := ⟨RX7, "line", "(III)J"⟩
abbrev cX7_find : ByteArray := prog_1_method_7_code
def yX7_find : MethodName := ⟨RX7, "find", "(II)I"⟩
abbrev cX7_longest : ByteArray := prog_1_method_8_code
def yX7_longest : MethodName := ⟨RX7, "longest", "(II)I"⟩
abbrev cX7_least : ByteArray := prog_1_method_9_code
def yX7_least : MethodName := ⟨RX7, "least", "(II)I"⟩
abbrev cX7_set : ByteArray := prog_1_method_10_code
def yX7_set : MethodName := ⟨RX7, "set", "(III)I"⟩
abbrev cX7_spans : ByteArray := prog_1_method_11_code
def yX7_spans : MethodName := ⟨RX7, "spans", "(I)I"⟩
abbrev cX7_span : ByteArray := prog_1_method_12_code
def yX7_span : MethodName := ⟨RX7, "span", "(III)J"⟩
abbrev cX7_share : ByteArray := prog_1_method_13_code
def yX7_share : MethodName := ⟨RX7, "share", "(II)J"⟩
abbrev cX7_same : ByteArray := prog_1_method_14_code
def yX7_same : MethodName := ⟨RX7, "same", "(II)I"⟩
abbrev cX7_differ : ByteArray := prog_1_method_15_code
def yX7_differ : MethodName := ⟨RX7, "differ", "(III)J"⟩
abbrev cX7_combine : ByteArray := prog_1_method_16_code
def yX7_combine : MethodName := ⟨RX7, "combine", "(IIII)I"⟩
abbrev cX7_cover : ByteArray := prog_1_method_17_code
def yX7_cover : MethodName := ⟨RX7, "cover", "(II)I"⟩
abbrev cX7_piece : ByteArray := prog_1_method_18_code
def yX7_piece : MethodName := ⟨RX7, "piece", "(II)J"⟩
abbrev cX7_way : ByteArray := prog_1_method_19_code
def yX7_way : MethodName := ⟨RX7, "way", "(II)I"⟩
abbrev cX7_step : ByteArray := prog_1_method_20_code
def yX7_step : MethodName := ⟨RX7, "step", "(II)J"⟩
abbrev cX7_led : ByteArray := prog_1_method_21_code
def yX7_led : MethodName := ⟨RX7, "led", "(II)I"⟩
abbrev cX7_nodes : ByteArray := prog_1_method_22_code
def yX7_nodes : MethodName := ⟨RX7, "nodes", "(II)J"⟩
abbrev cX7_steps : ByteArray := prog_1_method_23_code
def yX7_steps : MethodName := ⟨RX7, "steps", "(II)I"⟩
abbrev cX7_becomeLeast : ByteArray := prog_1_method_24_code
def yX7_becomeLeast : MethodName := ⟨RX7, "becomeLeast", "(LPrefixLeader$Lines;LPrefixLeader$Lines;)I"⟩
abbrev cX7_measureDifference : ByteArray := prog_1_method_25_code
def yX7_measureDifference : MethodName := ⟨RX7, "measureDifference", "(II)V"⟩
abbrev cX7_isBook : ByteArray := prog_1_method_26_code
def yX7_isBook : MethodName := ⟨RX7, "isBook", "(I)Z"⟩
abbrev cX7_isGoal : ByteArray := prog_1_method_27_code
def yX7_isGoal : MethodName := ⟨RX7, "isGoal", "(I)Z"⟩
abbrev cX7_isBeginning : ByteArray := prog_1_method_28_code
def yX7_isBeginning : MethodName := ⟨RX7, "isBeginning", "(II)Z"⟩
abbrev cX7_begins : ByteArray := prog_1_method_29_code
def yX7_begins : MethodName := ⟨RX7, "begins", "(III)Z"⟩
abbrev cX7_mask : ByteArray := prog_1_method_30_code
def yX7_mask : MethodName := ⟨RX7, "mask", "(I)I"⟩
abbrev cX7_bitAt : ByteArray := prog_1_method_31_code
def yX7_bitAt : MethodName := ⟨RX7, "bitAt", "(I)I"⟩
abbrev cX7_wide : ByteArray := prog_1_method_32_code
def yX7_wide : MethodName := ⟨RX7, "wide", "(I)J"⟩
def RX8 : String := "PrefixLeaderModel"
def TX8 : u_T := fun k => match k with
  | 0 => ("PrefixLeaderModel", "many", "[I", true)
  | 1 => ("PrefixLeaderModel", "address", "[J", true)
  | 2 => ("PrefixLeaderModel", "bits", "[I", true)
  | 3 => ("PrefixLeaderModel", "goal", "[I", true)
  | 4 => ("PrefixLeaderModel", "spanMany", "I", false)
  | 5 => ("PrefixLeaderModel", "from", "[J", true)
  | 6 => ("PrefixLeaderModel", "led", "[I", true)
  | 7 => ("PrefixLeaderModel", "mixedMany", "[I", true)
  | 8 => ("PrefixLeaderModel", "mixed", "[J", true)
  | 9 => ("PrefixLeaderModel", "mixedSet", "[I", true)
  | 10 => ("PrefixLeaderModel", "here", "[J", true)
  | 11 => ("PrefixLeaderModel", "comes", "[I", true)
  | 12 => ("PrefixLeaderModel", "next", "[J", true)
  | 13 => ("PrefixLeaderModel", "nextComes", "[I", true)
  | 14 => ("PrefixLeaderModel", "madeMany", "I", false)
  | 15 => ("PrefixLeaderModel", "madeAddress", "[J", true)
  | 16 => ("PrefixLeaderModel", "madeBits", "[I", true)
  | 17 => ("PrefixLeaderModel", "madeGoal", "[I", true)
  | 18 => ("PrefixLeaderModel", "pieces", "I", false)
  | 19 => ("PrefixLeaderModel", "pieceAddress", "[J", true)
  | 20 => ("PrefixLeaderModel", "pieceBits", "[I", true)
  | 21 => ("PrefixLeaderModel", "hasWay", "Z", false)
  | 22 => ("PrefixLeaderModel", "stepMany", "I", false)
  | 23 => ("PrefixLeaderModel", "stepKind", "[I", true)
  | 24 => ("PrefixLeaderModel", "stepAddress", "[J", true)
  | 25 => ("PrefixLeaderModel", "stepBits", "[I", true)
  | 26 => ("PrefixLeaderModel", "stepGoal", "[I", true)
  | 27 => ("PrefixLeaderModel", "wayMany", "I", false)
  | 28 => ("PrefixLeaderModel", "wayAddress", "[J", true)
  | 29 => ("PrefixLeaderModel", "wayBits", "[I", true)
  | 30 => ("PrefixLeaderModel", "wayGoal", "[I", true)
  | 31 => ("PrefixLeaderModel", "seenMany", "I", false)
  | 32 => ("PrefixLeaderModel", "seen", "[J", true)
  | _ => ("PrefixLeaderModel", "seenBits", "[I", true)
def tyX8 : Nat → FieldType := fun k => match k with
  | 0 => .array .int
  | 1 => .array .long
  | 2 => .array .int
  | 3 => .array .int
  | 4 => .int
  | 5 => .array .long
  | 6 => .array .int
  | 7 => .array .int
  | 8 => .array .long
  | 9 => .array .int
  | 10 => .array .long
  | 11 => .array .int
  | 12 => .array .long
  | 13 => .array .int
  | 14 => .int
  | 15 => .array .long
  | 16 => .array .int
  | 17 => .array .int
  | 18 => .int
  | 19 => .array .long
  | 20 => .array .int
  | 21 => .boolean
  | 22 => .int
  | 23 => .array .int
  | 24 => .array .long
  | 25 => .array .int
  | 26 => .array .int
  | 27 => .int
  | 28 => .array .long
  | 29 => .array .int
  | 30 => .array .int
  | 31 => .int
  | 32 => .array .long
  | _ => .array .int
abbrev wsX80 : List Cond := u_ws RX8 TX8 34
theorem nmX8 : ∀ a, a < 34 → ∀ b, b < 34 → a ≠ b → (TX8 a).2.1 ≠ (TX8 b).2.1 := by decide +kernel
theorem tyX8_ok : ∀ k, k < 34 → parseFieldDescriptor (TX8 k).2.2.1 = some (tyX8 k) := by decide +kernel
abbrev cX8_init : ByteArray := prog_10_method_1_code
def yX8_init : MethodName := ⟨RX8, "<init>", "()V"⟩
abbrev cX8_lies : ByteArray := prog_10_method_2_code
def yX8_lies : MethodName := ⟨RX8, "lies", "(III)Z"⟩
abbrev cX8_isBook : ByteArray := prog_10_method_3_code
def yX8_isBook : MethodName := ⟨RX8, "isBook", "(I)Z"⟩
abbrev cX8_number : ByteArray := prog_10_method_4_code
def yX8_number : MethodName := ⟨RX8, "number", "(I)J"⟩
abbrev cX8_size : ByteArray := prog_10_method_5_code
def yX8_size : MethodName := ⟨RX8, "size", "(I)J"⟩
abbrev cX8_isBeginning : ByteArray := prog_10_method_6_code
def yX8_isBeginning : MethodName := ⟨RX8, "isBeginning", "(II)Z"⟩
abbrev cX8_begins : ByteArray := prog_10_method_7_code
def yX8_begins : MethodName := ⟨RX8, "begins", "(JJI)Z"⟩
abbrev cX8_at : ByteArray := prog_10_method_8_code
def yX8_at : MethodName := ⟨RX8, "at", "(IJI)I"⟩
abbrev cX8_moves : ByteArray := prog_10_method_9_code
def yX8_moves : MethodName := ⟨RX8, "moves", "(III)V"⟩
abbrev cX8_comes : ByteArray := prog_10_method_10_code
def yX8_comes : MethodName := ⟨RX8, "comes", "(IJII)V"⟩
abbrev cX8_put : ByteArray := prog_10_method_11_code
def yX8_put : MethodName := ⟨RX8, "put", "(IIII)I"⟩
abbrev cX8_drop : ByteArray := prog_10_method_12_code
def yX8_drop : MethodName := ⟨RX8, "drop", "(III)Z"⟩
abbrev cX8_copy : ByteArray := prog_10_method_13_code
def yX8_copy : MethodName := ⟨RX8, "copy", "(II)I"⟩
abbrev cX8_count : ByteArray := prog_10_method_14_code
def yX8_count : MethodName := ⟨RX8, "count", "(I)I"⟩
abbrev cX8_line : ByteArray := prog_10_method_15_code
def yX8_line : MethodName := ⟨RX8, "line", "(III)J"⟩
abbrev cX8_best : ByteArray := prog_10_method_16_code
def yX8_best : MethodName := ⟨RX8, "best", "(IJ)I"⟩
abbrev cX8_leads : ByteArray := prog_10_method_17_code
def yX8_leads : MethodName := ⟨RX8, "leads", "(IJ)I"⟩
abbrev cX8_find : ByteArray := prog_10_method_18_code
def yX8_find : MethodName := ⟨RX8, "find", "(II)I"⟩
abbrev cX8_longest : ByteArray := prog_10_method_19_code
def yX8_longest : MethodName := ⟨RX8, "longest", "(II)I"⟩
abbrev cX8_leads_ : ByteArray := prog_10_method_20_code
def yX8_leads_ : MethodName := ⟨RX8, "leads", "(IIIJ)I"⟩
abbrev cX8_cuts : ByteArray := prog_10_method_21_code
def yX8_cuts : MethodName := ⟨RX8, "cuts", "(J)V"⟩
abbrev cX8_cutsOf : ByteArray := prog_10_method_22_code
def yX8_cutsOf : MethodName := ⟨RX8, "cutsOf", "(I)V"⟩
abbrev cX8_makeSpans : ByteArray := prog_10_method_23_code
def yX8_makeSpans : MethodName := ⟨RX8, "makeSpans", "(III)V"⟩
abbrev cX8_end : ByteArray := prog_10_method_24_code
def yX8_end : MethodName := ⟨RX8, "end", "(I)J"⟩
abbrev cX8_spans : ByteArray := prog_10_method_25_code
def yX8_spans : MethodName := ⟨RX8, "spans", "(I)I"⟩
abbrev cX8_span : ByteArray := prog_10_method_26_code
def yX8_span : MethodName := ⟨RX8, "span", "(III)J"⟩
abbrev cX8_share : ByteArray := prog_10_method_27_code
def yX8_share : MethodName := ⟨RX8, "share", "(II)J"⟩
abbrev cX8_same : ByteArray := prog_10_method_28_code
def yX8_same : MethodName := ⟨RX8, "same", "(II)I"⟩
abbrev cX8_differ : ByteArray := prog_10_method_29_code
def yX8_differ : MethodName := ⟨RX8, "differ", "(III)J"⟩
abbrev cX8_spanOf : ByteArray := prog_10_method_30_code
def yX8_spanOf : MethodName := ⟨RX8, "spanOf", "(J)I"⟩
abbrev cX8_isOne : ByteArray := prog_10_method_31_code
def yX8_isOne : MethodName := ⟨RX8, "isOne", "(JI)Z"⟩
abbrev cX8_mixedAt : ByteArray := prog_10_method_32_code
def yX8_mixedAt : MethodName := ⟨RX8, "mixedAt", "(JI)I"⟩
abbrev cX8_setOf : ByteArray := prog_10_method_33_code
def yX8_setOf : MethodName := ⟨RX8, "setOf", "(JI)I"⟩
abbrev cX8_makeSets : ByteArray := prog_10_method_34_code
def yX8_makeSets : MethodName := ⟨RX8, "makeSets", "()V"⟩
abbrev cX8_set : ByteArray := prog_10_method_35_code
def yX8_set : MethodName := ⟨RX8, "set", "(III)I"⟩
abbrev cX8_lowest : ByteArray := prog_10_method_36_code
def yX8_lowest : MethodName := ⟨RX8, "lowest", "(I)I"⟩
abbrev cX8_makeLeast : ByteArray := prog_10_method_37_code
def yX8_makeLeast : MethodName := ⟨RX8, "makeLeast", "()I"⟩
abbrev cX8_becomes : ByteArray := prog_10_method_38_code
def yX8_becomes : MethodName := ⟨RX8, "becomes", "(I)I"⟩
abbrev cX8_least : ByteArray := prog_10_method_39_code
def yX8_least : MethodName := ⟨RX8, "least", "(II)I"⟩
abbrev cX8_combine : ByteArray := prog_10_method_40_code
def yX8_combine : MethodName := ⟨RX8, "combine", "(IIII)I"⟩
abbrev cX8_cover : ByteArray := prog_10_method_41_code
def yX8_cover : MethodName := ⟨RX8, "cover", "(II)I"⟩
abbrev cX8_piece : ByteArray := prog_10_method_42_code
def yX8_piece : MethodName := ⟨RX8, "piece", "(II)J"⟩
abbrev cX8_step : ByteArray := prog_10_method_43_code
def yX8_step : MethodName := ⟨RX8, "step", "(IJII)V"⟩
abbrev cX8_way : ByteArray := prog_10_method_44_code
def yX8_way : MethodName := ⟨RX8, "way", "(II)I"⟩
abbrev cX8_step_ : ByteArray := prog_10_method_45_code
def yX8_step_ : MethodName := ⟨RX8, "step", "(II)J"⟩
abbrev cX8_done : ByteArray := prog_10_method_46_code
def yX8_done : MethodName := ⟨RX8, "done", "(IJI)I"⟩
abbrev cX8_led : ByteArray := prog_10_method_47_code
def yX8_led : MethodName := ⟨RX8, "led", "(II)I"⟩
abbrev cX8_counts : ByteArray := prog_10_method_48_code
def yX8_counts : MethodName := ⟨RX8, "counts", "(JI)V"⟩
abbrev cX8_pressed : ByteArray := prog_10_method_49_code
def yX8_pressed : MethodName := ⟨RX8, "pressed", "(I)V"⟩
abbrev cX8_strides : ByteArray := prog_10_method_50_code
def yX8_strides : MethodName := ⟨RX8, "strides", "(I)V"⟩
abbrev cX8_steps : ByteArray := prog_10_method_51_code
def yX8_steps : MethodName := ⟨RX8, "steps", "(II)I"⟩
abbrev cX8_nodes : ByteArray := prog_10_method_52_code
def yX8_nodes : MethodName := ⟨RX8, "nodes", "(II)J"⟩
def RJ6 : String := "java/lang/Integer"
def TJ6 : u_T := fun k => match k with
  | _ => ("", "", "", false)
def tyJ6 : Nat → FieldType := fun k => match k with
  | _ => .int
abbrev wsJ60 : List Cond := u_ws RJ6 TJ6 0
theorem nmJ6 : ∀ a, a < 0 → ∀ b, b < 0 → a ≠ b → (TJ6 a).2.1 ≠ (TJ6 b).2.1 := by decide +kernel
theorem tyJ6_ok : ∀ k, k < 0 → parseFieldDescriptor (TJ6 k).2.2.1 = some (tyJ6 k) := by decide +kernel
abbrev cJ6_numberOfLeadingZeros_0f7a4 : ByteArray := prog_11_method_47_code
def yJ6_numberOfLeadingZeros_0f7a4 : MethodName := ⟨RJ6, "numberOfLeadingZeros", "(I)I"⟩
abbrev cJ6_numberOfTrailingZeros_0f7a4 : ByteArray := prog_11_method_48_code
def yJ6_numberOfTrailingZeros_0f7a4 : MethodName := ⟨RJ6, "numberOfTrailingZeros", "(I)I"⟩
def RJ9 : String := "java/lang/Math"
def TJ9 : u_T := fun k => match k with
  | _ => ("", "", "", false)
def tyJ9 : Nat → FieldType := fun k => match k with
  | _ => .int
abbrev wsJ90 : List Cond := u_ws RJ9 TJ9 0
theorem nmJ9 : ∀ a, a < 0 → ∀ b, b < 0 → a ≠ b → (TJ9 a).2.1 ≠ (TJ9 b).2.1 := by decide +kernel
theorem tyJ9_ok : ∀ k, k < 0 → parseFieldDescriptor (TJ9 k).2.2.1 = some (tyJ9 k) := by decide +kernel
abbrev cJ9_max_7cf53 : ByteArray := prog_12_method_65_code
def yJ9_max_7cf53 : MethodName := ⟨RJ9, "max", "(II)I"⟩
abbrev cJ9_min_7cf53 : ByteArray := prog_12_method_69_code
def yJ9_min_7cf53 : MethodName := ⟨RJ9, "min", "(II)I"⟩
abbrev cJ9_min_f86c9 : ByteArray := prog_12_method_70_code
def yJ9_min_f86c9 : MethodName := ⟨RJ9, "min", "(JJ)J"⟩
def RL : String := "PrefixLeaderLaw"
abbrev cL_law : ByteArray := code
def yL_law : MethodName := ⟨RL, "law", "([I)Z"⟩
def wsX0_init : List Cond := .code yX0_init cX0_init 1 none :: ([.methodLink RX0 3 objectInit, .instanceMethod objectInit, .code objectInit ⟨#[0xb1]⟩ 1 none, .arrayClass .long, .fieldLink RX0 11 "PrefixLeader$Cover" "address" "[J", .arrayClass .int, .fieldLink RX0 15 "PrefixLeader$Cover" "bits" "[I"] ++ wsX00)
def wsX0_addressesOf : List Cond := .code yX0_addressesOf cX0_addressesOf 1 (some .long) :: ([.constantLong RX0 31 (4294967296)])
def wsX0_fewestBits : List Cond := .code yX0_fewestBits cX0_fewestBits 7 (some .int) :: ([.methodLink RX0 27 yX0_addressesOf, .static yX0_addressesOf, .initialized RX0, .code yX0_addressesOf cX0_addressesOf 1 (some .long), .constantLong RX0 31 (4294967296)])
def wsX0_make : List Cond := .code yX0_make cX0_make 8 none :: ([.fieldLink RX0 19 "PrefixLeader$Cover" "size" "I", .fieldLink RX0 11 "PrefixLeader$Cover" "address" "[J", .fieldLink RX0 15 "PrefixLeader$Cover" "bits" "[I", .methodLink RX0 23 yX0_fewestBits, .static yX0_fewestBits, .initialized RX0, .code yX0_fewestBits cX0_fewestBits 7 (some .int), .methodLink RX0 27 yX0_addressesOf, .static yX0_addressesOf, .code yX0_addressesOf cX0_addressesOf 1 (some .long), .constantLong RX0 31 (4294967296)] ++ wsX00)
def wsX0_tell : List Cond := .code yX0_tell cX0_tell 3 (some .long) :: ([.fieldLink RX0 19 "PrefixLeader$Cover" "size" "I", .constantLong RX0 33 (-1), .fieldLink RX0 11 "PrefixLeader$Cover" "address" "[J", .fieldLink RX0 15 "PrefixLeader$Cover" "bits" "[I"] ++ wsX00)
def wsX1_init : List Cond := .code yX1_init cX1_init 1 none :: ([.methodLink RX1 5 objectInit, .instanceMethod objectInit, .code objectInit ⟨#[0xb1]⟩ 1 none])
def wsX3_last : List Cond := .code yX3_last cX3_last 2 (some .long) :: ([.fieldLink RX3 22 "PrefixLeader$Spans" "size" "I", .fieldLink RX3 11 "PrefixLeader$Spans" "first" "[J", .constantLong RX3 53 (4294967295)] ++ wsX30)
def wsX1_measure : List Cond := .code yX1_measure cX1_measure 12 none :: ([.constantLong RX1 11 (-1), .fieldLink RX1 13 "PrefixLeader$Difference" "start" "J", .fieldLink RX1 19 "PrefixLeader$Difference" "amount" "J", .methodLink RX1 30 Lib.MathLoose.min_long.x, .static Lib.MathLoose.min_long.x, .initialized "java/lang/Math", .code Lib.MathLoose.min_long.x Lib.MathLoose.min_long.code 4 (some .long), .methodLink RX1 26 yX3_last, .instanceMethod yX3_last, .selects RX3 yX3_last yX3_last, .initialized RX3, .code yX3_last cX3_last 2 (some .long), .fieldLink RX3 22 "PrefixLeader$Spans" "size" "I", .fieldLink RX3 11 "PrefixLeader$Spans" "first" "[J", .constantLong RX3 53 (4294967295)] ++ wsX10 ++ wsX30)
def wsX2_init : List Cond := .code yX2_init cX2_init 2 none :: ([.methodLink RX2 3 objectInit, .instanceMethod objectInit, .code objectInit ⟨#[0xb1]⟩ 1 none, .methodLink RX2 9 Lib.Math.max.name, .static Lib.Math.max.name, .initialized "java/lang/Math", .code Lib.Math.max.name Lib.Math.max.code 2 (some .int), .fieldLink RX2 15 "PrefixLeader$Lines" "room" "I", .arrayClass .int, .fieldLink RX2 21 "PrefixLeader$Lines" "address" "[I", .fieldLink RX2 25 "PrefixLeader$Lines" "bits" "[I", .fieldLink RX2 28 "PrefixLeader$Lines" "goal" "[I"] ++ wsX20)
def wsX7_wide : List Cond := .code yX7_wide cX7_wide 1 (some .long) :: ([.constantLong RX7 218 (4294967295)])
def wsX2_first : List Cond := .code yX2_first cX2_first 2 (some .long) :: ([.fieldLink RX2 21 "PrefixLeader$Lines" "address" "[I", .static yX7_wide, .initialized RX7, .code yX7_wide cX7_wide 1 (some .long), .constantLong RX7 218 (4294967295)] ++ wsX20)
def wsX7_mask : List Cond := .code yX7_mask cX7_mask 1 (some .int) :: ([.methodLink RX7 210 Lib.Math.min.name, .static Lib.Math.min.name, .initialized "java/lang/Math", .code Lib.Math.min.name Lib.Math.min.code 2 (some .int)])
def wsX2_last : List Cond := .code yX2_last cX2_last 2 (some .long) :: ([.fieldLink RX2 21 "PrefixLeader$Lines" "address" "[I", .fieldLink RX2 25 "PrefixLeader$Lines" "bits" "[I", .static yX7_mask, .initialized RX7, .code yX7_mask cX7_mask 1 (some .int), .methodLink RX7 210 Lib.Math.min.name, .static Lib.Math.min.name, .initialized "java/lang/Math", .code Lib.Math.min.name Lib.Math.min.code 2 (some .int), .static yX7_wide, .code yX7_wide cX7_wide 1 (some .long), .constantLong RX7 218 (4294967295)] ++ wsX20)
def wsX2_isAt : List Cond := .code yX2_isAt cX2_isAt 4 (some .boolean) :: ([.fieldLink RX2 39 "PrefixLeader$Lines" "size" "I", .fieldLink RX2 21 "PrefixLeader$Lines" "address" "[I", .fieldLink RX2 25 "PrefixLeader$Lines" "bits" "[I"] ++ wsX20)
def wsX2_isAhead : List Cond := .code yX2_isAhead cX2_isAhead 4 (some .boolean) :: ([.fieldLink RX2 21 "PrefixLeader$Lines" "address" "[I", .fieldLink RX2 25 "PrefixLeader$Lines" "bits" "[I", .static yX7_wide, .initialized RX7, .code yX7_wide cX7_wide 1 (some .long), .constantLong RX7 218 (4294967295)] ++ wsX20)
def wsX2_placeOf : List Cond := .code yX2_placeOf cX2_placeOf 4 (some .int) :: ([.fieldLink RX2 39 "PrefixLeader$Lines" "size" "I", .methodLink RX2 49 yX2_isAhead, .instanceMethod yX2_isAhead, .selects RX2 yX2_isAhead yX2_isAhead, .initialized RX2, .code yX2_isAhead cX2_isAhead 4 (some .boolean), .fieldLink RX2 21 "PrefixLeader$Lines" "address" "[I", .fieldLink RX2 25 "PrefixLeader$Lines" "bits" "[I", .static yX7_wide, .initialized RX7, .code yX7_wide cX7_wide 1 (some .long), .constantLong RX7 218 (4294967295)] ++ wsX20)
def wsX2_hasBeginning : List Cond := .code yX2_hasBeginning cX2_hasBeginning 3 (some .boolean) :: ([.methodLink RX2 42 yX2_placeOf, .instanceMethod yX2_placeOf, .selects RX2 yX2_placeOf yX2_placeOf, .initialized RX2, .code yX2_placeOf cX2_placeOf 4 (some .int), .fieldLink RX2 39 "PrefixLeader$Lines" "size" "I", .methodLink RX2 49 yX2_isAhead, .instanceMethod yX2_isAhead, .selects RX2 yX2_isAhead yX2_isAhead, .code yX2_isAhead cX2_isAhead 4 (some .boolean), .fieldLink RX2 21 "PrefixLeader$Lines" "address" "[I", .fieldLink RX2 25 "PrefixLeader$Lines" "bits" "[I", .static yX7_wide, .initialized RX7, .code yX7_wide cX7_wide 1 (some .long), .constantLong RX7 218 (4294967295), .methodLink RX2 45 yX2_isAt, .instanceMethod yX2_isAt, .selects RX2 yX2_isAt yX2_isAt, .code yX2_isAt cX2_isAt 4 (some .boolean)] ++ wsX20)
def wsX2_hasLine : List Cond := .code yX2_hasLine cX2_hasLine 5 (some .boolean) :: ([.fieldLink RX2 28 "PrefixLeader$Lines" "goal" "[I", .methodLink RX2 42 yX2_placeOf, .instanceMethod yX2_placeOf, .selects RX2 yX2_placeOf yX2_placeOf, .initialized RX2, .code yX2_placeOf cX2_placeOf 4 (some .int), .fieldLink RX2 39 "PrefixLeader$Lines" "size" "I", .methodLink RX2 49 yX2_isAhead, .instanceMethod yX2_isAhead, .selects RX2 yX2_isAhead yX2_isAhead, .code yX2_isAhead cX2_isAhead 4 (some .boolean), .fieldLink RX2 21 "PrefixLeader$Lines" "address" "[I", .fieldLink RX2 25 "PrefixLeader$Lines" "bits" "[I", .static yX7_wide, .initialized RX7, .code yX7_wide cX7_wide 1 (some .long), .constantLong RX7 218 (4294967295), .methodLink RX2 45 yX2_isAt, .instanceMethod yX2_isAt, .selects RX2 yX2_isAt yX2_isAt, .code yX2_isAt cX2_isAt 4 (some .boolean)] ++ wsX20)
def wsX7_begins : List Cond := .code yX7_begins cX7_begins 3 (some .boolean) :: ([.methodLink RX7 207 yX7_mask, .static yX7_mask, .initialized RX7, .code yX7_mask cX7_mask 1 (some .int), .methodLink RX7 210 Lib.Math.min.name, .static Lib.Math.min.name, .initialized "java/lang/Math", .code Lib.Math.min.name Lib.Math.min.code 2 (some .int)])
def wsX2_endOf : List Cond := .code yX2_endOf cX2_endOf 5 (some .int) :: ([.methodLink RX2 9 Lib.Math.max.name, .static Lib.Math.max.name, .initialized "java/lang/Math", .code Lib.Math.max.name Lib.Math.max.code 2 (some .int), .fieldLink RX2 39 "PrefixLeader$Lines" "size" "I", .fieldLink RX2 21 "PrefixLeader$Lines" "address" "[I", .static yX7_begins, .initialized RX7, .code yX7_begins cX7_begins 3 (some .boolean), .methodLink RX7 207 yX7_mask, .static yX7_mask, .code yX7_mask cX7_mask 1 (some .int), .methodLink RX7 210 Lib.Math.min.name, .static Lib.Math.min.name, .code Lib.Math.min.name Lib.Math.min.code 2 (some .int)] ++ wsX20)
def wsX2_lastHolder : List Cond := .code yX2_lastHolder cX2_lastHolder 4 (some .int) :: ([.fieldLink RX2 39 "PrefixLeader$Lines" "size" "I", .methodLink RX2 55 Lib.Math.min.name, .static Lib.Math.min.name, .initialized "java/lang/Math", .code Lib.Math.min.name Lib.Math.min.code 2 (some .int), .fieldLink RX2 21 "PrefixLeader$Lines" "address" "[I", .fieldLink RX2 25 "PrefixLeader$Lines" "bits" "[I", .static yX7_begins, .initialized RX7, .code yX7_begins cX7_begins 3 (some .boolean), .methodLink RX7 207 yX7_mask, .static yX7_mask, .code yX7_mask cX7_mask 1 (some .int), .methodLink RX7 210 Lib.Math.min.name] ++ wsX20)
def wsX2_goalAmong : List Cond := .code yX2_goalAmong cX2_goalAmong 4 (some .int) :: ([.fieldLink RX2 28 "PrefixLeader$Lines" "goal" "[I", .methodLink RX2 58 yX2_lastHolder, .instanceMethod yX2_lastHolder, .selects RX2 yX2_lastHolder yX2_lastHolder, .initialized RX2, .code yX2_lastHolder cX2_lastHolder 4 (some .int), .fieldLink RX2 39 "PrefixLeader$Lines" "size" "I", .methodLink RX2 55 Lib.Math.min.name, .static Lib.Math.min.name, .initialized "java/lang/Math", .code Lib.Math.min.name Lib.Math.min.code 2 (some .int), .fieldLink RX2 21 "PrefixLeader$Lines" "address" "[I", .fieldLink RX2 25 "PrefixLeader$Lines" "bits" "[I", .static yX7_begins, .initialized RX7, .code yX7_begins cX7_begins 3 (some .boolean), .methodLink RX7 207 yX7_mask, .static yX7_mask, .code yX7_mask cX7_mask 1 (some .int), .methodLink RX7 210 Lib.Math.min.name] ++ wsX20)
def wsX2_clear : List Cond := .code yX2_clear cX2_clear 1 none :: ([.fieldLink RX2 39 "PrefixLeader$Lines" "size" "I"] ++ wsX20)
def wsX2_append : List Cond := .code yX2_append cX2_append 4 none :: ([.fieldLink RX2 39 "PrefixLeader$Lines" "size" "I", .fieldLink RX2 15 "PrefixLeader$Lines" "room" "I", .fieldLink RX2 21 "PrefixLeader$Lines" "address" "[I", .fieldLink RX2 25 "PrefixLeader$Lines" "bits" "[I", .fieldLink RX2 28 "PrefixLeader$Lines" "goal" "[I"] ++ wsX20)
def wsX2_write : List Cond := .code yX2_write cX2_write 5 none :: ([.fieldLink RX2 21 "PrefixLeader$Lines" "address" "[I", .fieldLink RX2 25 "PrefixLeader$Lines" "bits" "[I", .fieldLink RX2 28 "PrefixLeader$Lines" "goal" "[I"] ++ wsX20)
def wsX2_insert : List Cond := .code yX2_insert cX2_insert 6 (some .boolean) :: ([.fieldLink RX2 39 "PrefixLeader$Lines" "size" "I", .fieldLink RX2 15 "PrefixLeader$Lines" "room" "I", .fieldLink RX2 21 "PrefixLeader$Lines" "address" "[I", .fieldLink RX2 25 "PrefixLeader$Lines" "bits" "[I", .fieldLink RX2 28 "PrefixLeader$Lines" "goal" "[I", .methodLink RX2 61 yX2_write, .instanceMethod yX2_write, .selects RX2 yX2_write yX2_write, .initialized RX2, .code yX2_write cX2_write 5 none] ++ wsX20)
def wsX2_removeAt : List Cond := .code yX2_removeAt cX2_removeAt 3 none :: ([.fieldLink RX2 39 "PrefixLeader$Lines" "size" "I", .fieldLink RX2 21 "PrefixLeader$Lines" "address" "[I", .fieldLink RX2 25 "PrefixLeader$Lines" "bits" "[I", .fieldLink RX2 28 "PrefixLeader$Lines" "goal" "[I", .methodLink RX2 61 yX2_write, .instanceMethod yX2_write, .selects RX2 yX2_write yX2_write, .initialized RX2, .code yX2_write cX2_write 5 none] ++ wsX20)
def wsX2_become : List Cond := .code yX2_become cX2_become 4 none :: ([.fieldLink RX2 39 "PrefixLeader$Lines" "size" "I", .fieldLink RX2 15 "PrefixLeader$Lines" "room" "I", .methodLink RX2 55 Lib.Math.min.name, .static Lib.Math.min.name, .initialized "java/lang/Math", .code Lib.Math.min.name Lib.Math.min.code 2 (some .int), .fieldLink RX2 21 "PrefixLeader$Lines" "address" "[I", .fieldLink RX2 25 "PrefixLeader$Lines" "bits" "[I", .fieldLink RX2 28 "PrefixLeader$Lines" "goal" "[I", .methodLink RX2 61 yX2_write, .instanceMethod yX2_write, .selects RX2 yX2_write yX2_write, .initialized RX2, .code yX2_write cX2_write 5 none] ++ wsX20)
def wsX2_mixed : List Cond := .code yX2_mixed cX2_mixed 3 (some .int) :: ([])
def wsX2_merge_r1 : List Cond := [Cond.fieldLink RX2 39 "PrefixLeader$Lines" "size" "I", Cond.fieldLink RX2 21 "PrefixLeader$Lines" "address" "[I", Cond.fieldLink RX2 25 "PrefixLeader$Lines" "bits" "[I", Cond.methodLink RX2 65 yX2_clear, Cond.instanceMethod yX2_clear, Cond.selects RX2 yX2_clear yX2_clear, Cond.initialized RX2, Cond.code yX2_clear cX2_clear 1 none, Cond.methodLink RX2 49 yX2_isAhead, Cond.instanceMethod yX2_isAhead, Cond.selects RX2 yX2_isAhead yX2_isAhead, Cond.code yX2_isAhead cX2_isAhead 4 (some .boolean), Cond.static yX7_wide, Cond.initialized RX7, Cond.code yX7_wide cX7_wide 1 (some .long), Cond.constantLong RX7 218 (4294967295), Cond.methodLink RX2 45 yX2_isAt, Cond.instanceMethod yX2_isAt, Cond.selects RX2 yX2_isAt yX2_isAt, Cond.code yX2_isAt cX2_isAt 4 (some .boolean), Cond.methodLink RX2 68 yX2_goalAmong, Cond.instanceMethod yX2_goalAmong, Cond.selects RX2 yX2_goalAmong yX2_goalAmong, Cond.code yX2_goalAmong cX2_goalAmong 4 (some .int)]
def wsX2_merge_r2 : List Cond := [Cond.fieldLink RX2 28 "PrefixLeader$Lines" "goal" "[I", Cond.methodLink RX2 58 yX2_lastHolder, Cond.instanceMethod yX2_lastHolder, Cond.selects RX2 yX2_lastHolder yX2_lastHolder, Cond.code yX2_lastHolder cX2_lastHolder 4 (some .int), Cond.methodLink RX2 55 Lib.Math.min.name, Cond.static Lib.Math.min.name, Cond.initialized "java/lang/Math", Cond.code Lib.Math.min.name Lib.Math.min.code 2 (some .int), Cond.static yX7_begins, Cond.code yX7_begins cX7_begins 3 (some .boolean), Cond.methodLink RX7 207 yX7_mask, Cond.static yX7_mask, Cond.code yX7_mask cX7_mask 1 (some .int), Cond.methodLink RX7 210 Lib.Math.min.name, Cond.methodLink RX2 71 yX2_mixed, Cond.static yX2_mixed, Cond.code yX2_mixed cX2_mixed 3 (some .int), Cond.methodLink RX2 75 yX2_append, Cond.instanceMethod yX2_append, Cond.selects RX2 yX2_append yX2_append, Cond.code yX2_append cX2_append 4 none, Cond.fieldLink RX2 15 "PrefixLeader$Lines" "room" "I"]
def wsX2_merge : List Cond := .code yX2_merge cX2_merge 10 none :: ((wsX2_merge_r1 ++ wsX2_merge_r2) ++ wsX20)
def wsJ6_numberOfLeadingZeros_0f7a4 : List Cond := .code yJ6_numberOfLeadingZeros_0f7a4 cJ6_numberOfLeadingZeros_0f7a4 2 (some .int) :: ([.constant RJ6 264 (65536)])
def wsX2_commonBits : List Cond := .code yX2_commonBits cX2_commonBits 3 (some .int) :: ([.fieldLink RX2 25 "PrefixLeader$Lines" "bits" "[I", .fieldLink RX2 21 "PrefixLeader$Lines" "address" "[I", .methodLink RX2 55 Lib.Math.min.name, .static Lib.Math.min.name, .initialized "java/lang/Math", .code Lib.Math.min.name Lib.Math.min.code 2 (some .int), .methodLink RX2 79 yJ6_numberOfLeadingZeros_0f7a4, .static yJ6_numberOfLeadingZeros_0f7a4, .initialized RJ6, .code yJ6_numberOfLeadingZeros_0f7a4 cJ6_numberOfLeadingZeros_0f7a4 2 (some .int), .constant RJ6 264 (65536)] ++ wsX20)
def wsX7_bitAt : List Cond := .code yX7_bitAt cX7_bitAt 1 (some .int) :: ([.constant RX7 217 (-2147483648)])
def wsX2_firstHigh : List Cond := .code yX2_firstHigh cX2_firstHigh 5 (some .int) :: ([.fieldLink RX2 21 "PrefixLeader$Lines" "address" "[I", .static yX7_bitAt, .initialized RX7, .code yX7_bitAt cX7_bitAt 1 (some .int), .constant RX7 217 (-2147483648)] ++ wsX20)
def wsX3_init : List Cond := .code yX3_init cX3_init 1 none :: ([.methodLink RX3 3 objectInit, .instanceMethod objectInit, .code objectInit ⟨#[0xb1]⟩ 1 none, .arrayClass .long, .fieldLink RX3 11 "PrefixLeader$Spans" "first" "[J", .arrayClass .int, .fieldLink RX3 15 "PrefixLeader$Spans" "goal" "[I", .fieldLink RX3 19 "PrefixLeader$Spans" "open" "[I"] ++ wsX30)
def wsX3_reach : List Cond := .code yX3_reach cX3_reach 5 none :: ([.fieldLink RX3 26 "PrefixLeader$Spans" "reached" "J", .fieldLink RX3 22 "PrefixLeader$Spans" "size" "I", .fieldLink RX3 15 "PrefixLeader$Spans" "goal" "[I", .fieldLink RX3 11 "PrefixLeader$Spans" "first" "[J"] ++ wsX30)
def wsX3_reachStart_r1 : List Cond := [Cond.fieldLink RX3 30 "PrefixLeader$Spans" "opened" "I", Cond.fieldLink RX3 19 "PrefixLeader$Spans" "open" "[I", Cond.fieldLink RX3 48 "PrefixLeader$Lines" "goal" "[I", Cond.methodLink RX3 45 yX2_last, Cond.instanceMethod yX2_last, Cond.selects RX2 yX2_last yX2_last, Cond.initialized RX2, Cond.code yX2_last cX2_last 2 (some .long), Cond.fieldLink RX2 21 "PrefixLeader$Lines" "address" "[I", Cond.fieldLink RX2 25 "PrefixLeader$Lines" "bits" "[I", Cond.static yX7_mask, Cond.initialized RX7, Cond.code yX7_mask cX7_mask 1 (some .int), Cond.methodLink RX7 210 Lib.Math.min.name, Cond.static Lib.Math.min.name, Cond.initialized "java/lang/Math", Cond.code Lib.Math.min.name Lib.Math.min.code 2 (some .int), Cond.static yX7_wide, Cond.code yX7_wide cX7_wide 1 (some .long), Cond.constantLong RX7 218 (4294967295), Cond.methodLink RX3 49 yX3_reach, Cond.instanceMethod yX3_reach, Cond.selects RX3 yX3_reach yX3_reach, Cond.initialized RX3]
def wsX3_reachStart_r2 : List Cond := [Cond.code yX3_reach cX3_reach 5 none, Cond.fieldLink RX3 26 "PrefixLeader$Spans" "reached" "J", Cond.fieldLink RX3 22 "PrefixLeader$Spans" "size" "I", Cond.fieldLink RX3 15 "PrefixLeader$Spans" "goal" "[I", Cond.fieldLink RX3 11 "PrefixLeader$Spans" "first" "[J"]
def wsX3_reachStart : List Cond := .code yX3_reachStart cX3_reachStart 4 none :: ((wsX3_reachStart_r1 ++ wsX3_reachStart_r2) ++ wsX30 ++ wsX20)
def wsX3_measure_r1 : List Cond := [Cond.fieldLink RX3 22 "PrefixLeader$Spans" "size" "I", Cond.fieldLink RX3 26 "PrefixLeader$Spans" "reached" "J", Cond.fieldLink RX3 30 "PrefixLeader$Spans" "opened" "I", Cond.fieldLink RX3 33 "PrefixLeader$Lines" "size" "I", Cond.fieldLink RX3 19 "PrefixLeader$Spans" "open" "[I", Cond.constantLong RX3 43 (4294967296), Cond.methodLink RX3 36 yX2_first, Cond.instanceMethod yX2_first, Cond.selects RX2 yX2_first yX2_first, Cond.initialized RX2, Cond.code yX2_first cX2_first 2 (some .long), Cond.fieldLink RX2 21 "PrefixLeader$Lines" "address" "[I", Cond.static yX7_wide, Cond.initialized RX7, Cond.code yX7_wide cX7_wide 1 (some .long), Cond.constantLong RX7 218 (4294967295), Cond.methodLink RX3 39 yX3_reachStart, Cond.instanceMethod yX3_reachStart, Cond.selects RX3 yX3_reachStart yX3_reachStart, Cond.initialized RX3, Cond.code yX3_reachStart cX3_reachStart 4 none, Cond.fieldLink RX3 48 "PrefixLeader$Lines" "goal" "[I", Cond.methodLink RX3 45 yX2_last, Cond.instanceMethod yX2_last]
def wsX3_measure_r2 : List Cond := [Cond.selects RX2 yX2_last yX2_last, Cond.code yX2_last cX2_last 2 (some .long), Cond.fieldLink RX2 25 "PrefixLeader$Lines" "bits" "[I", Cond.static yX7_mask, Cond.code yX7_mask cX7_mask 1 (some .int), Cond.methodLink RX7 210 Lib.Math.min.name, Cond.static Lib.Math.min.name, Cond.initialized "java/lang/Math", Cond.code Lib.Math.min.name Lib.Math.min.code 2 (some .int), Cond.methodLink RX3 49 yX3_reach, Cond.instanceMethod yX3_reach, Cond.selects RX3 yX3_reach yX3_reach, Cond.code yX3_reach cX3_reach 5 none, Cond.fieldLink RX3 15 "PrefixLeader$Spans" "goal" "[I", Cond.fieldLink RX3 11 "PrefixLeader$Spans" "first" "[J"]
def wsX3_measure : List Cond := .code yX3_measure cX3_measure 3 none :: ((wsX3_measure_r1 ++ wsX3_measure_r2) ++ wsX30 ++ wsX20)
def wsX3_tell : List Cond := .code yX3_tell cX3_tell 3 (some .long) :: ([.fieldLink RX3 22 "PrefixLeader$Spans" "size" "I", .constantLong RX3 55 (-1), .fieldLink RX3 11 "PrefixLeader$Spans" "first" "[J", .fieldLink RX3 15 "PrefixLeader$Spans" "goal" "[I", .methodLink RX3 57 yX3_last, .instanceMethod yX3_last, .selects RX3 yX3_last yX3_last, .initialized RX3, .code yX3_last cX3_last 2 (some .long), .constantLong RX3 53 (4294967295)] ++ wsX30)
def wsX3_addressesTo : List Cond := .code yX3_addressesTo cX3_addressesTo 5 (some .long) :: ([.fieldLink RX3 22 "PrefixLeader$Spans" "size" "I", .fieldLink RX3 15 "PrefixLeader$Spans" "goal" "[I", .fieldLink RX3 11 "PrefixLeader$Spans" "first" "[J", .methodLink RX3 57 yX3_last, .instanceMethod yX3_last, .selects RX3 yX3_last yX3_last, .initialized RX3, .code yX3_last cX3_last 2 (some .long), .constantLong RX3 53 (4294967295)] ++ wsX30)
def wsX4_nodesAt : List Cond := .code yX4_nodesAt cX4_nodesAt 6 (some .int) :: ([.fieldLink RX4 15 "PrefixLeader$Lines" "size" "I", .fieldLink RX4 21 "PrefixLeader$Lines" "address" "[I", .fieldLink RX4 29 "PrefixLeader$Lines" "bits" "[I", .static yX7_mask, .initialized RX7, .code yX7_mask cX7_mask 1 (some .int), .methodLink RX7 210 Lib.Math.min.name, .static Lib.Math.min.name, .initialized "java/lang/Math", .code Lib.Math.min.name Lib.Math.min.code 2 (some .int)] ++ wsX20)
def wsX4_nodesOf : List Cond := .code yX4_nodesOf cX4_nodesOf 3 (some .int) :: ([.methodLink RX4 9 yX4_nodesAt, .static yX4_nodesAt, .initialized RX4, .code yX4_nodesAt cX4_nodesAt 6 (some .int), .fieldLink RX4 15 "PrefixLeader$Lines" "size" "I", .fieldLink RX4 21 "PrefixLeader$Lines" "address" "[I", .fieldLink RX4 29 "PrefixLeader$Lines" "bits" "[I", .static yX7_mask, .initialized RX7, .code yX7_mask cX7_mask 1 (some .int), .methodLink RX7 210 Lib.Math.min.name, .static Lib.Math.min.name, .initialized "java/lang/Math", .code Lib.Math.min.name Lib.Math.min.code 2 (some .int)] ++ wsX20)
def wsX4_deepest : List Cond := .code yX4_deepest cX4_deepest 3 (some .int) :: ([.fieldLink RX4 15 "PrefixLeader$Lines" "size" "I", .fieldLink RX4 29 "PrefixLeader$Lines" "bits" "[I"] ++ wsX20)
def wsX4_stepsDownTo : List Cond := .code yX4_stepsDownTo cX4_stepsDownTo 1 (some .int) :: ([])
def wsX4_firstDeepest : List Cond := .code yX4_firstDeepest cX4_firstDeepest 3 (some .long) :: ([.fieldLink RX4 15 "PrefixLeader$Lines" "size" "I", .fieldLink RX4 29 "PrefixLeader$Lines" "bits" "[I", .fieldLink RX4 21 "PrefixLeader$Lines" "address" "[I", .methodLink RX4 32 yX4_deepest, .static yX4_deepest, .initialized RX4, .code yX4_deepest cX4_deepest 3 (some .int), .static yX7_mask, .initialized RX7, .code yX7_mask cX7_mask 1 (some .int), .methodLink RX7 210 Lib.Math.min.name, .static Lib.Math.min.name, .initialized "java/lang/Math", .code Lib.Math.min.name Lib.Math.min.code 2 (some .int), .static yX7_wide, .code yX7_wide cX7_wide 1 (some .long), .constantLong RX7 218 (4294967295)] ++ wsX20)
def wsX4_hasNode : List Cond := .code yX4_hasNode cX4_hasNode 4 (some .boolean) :: ([.fieldLink RX4 15 "PrefixLeader$Lines" "size" "I", .fieldLink RX4 29 "PrefixLeader$Lines" "bits" "[I", .fieldLink RX4 21 "PrefixLeader$Lines" "address" "[I", .static yX7_begins, .initialized RX7, .code yX7_begins cX7_begins 3 (some .boolean), .methodLink RX7 207 yX7_mask, .static yX7_mask, .code yX7_mask cX7_mask 1 (some .int), .methodLink RX7 210 Lib.Math.min.name, .static Lib.Math.min.name, .initialized "java/lang/Math", .code Lib.Math.min.name Lib.Math.min.code 2 (some .int)] ++ wsX20)
def wsX4_stepsOf : List Cond := .code yX4_stepsOf cX4_stepsOf 3 (some .int) :: ([.static yX7_mask, .initialized RX7, .code yX7_mask cX7_mask 1 (some .int), .methodLink RX7 210 Lib.Math.min.name, .static Lib.Math.min.name, .initialized "java/lang/Math", .code Lib.Math.min.name Lib.Math.min.code 2 (some .int), .methodLink RX4 40 yX4_hasNode, .static yX4_hasNode, .initialized RX4, .code yX4_hasNode cX4_hasNode 4 (some .boolean), .fieldLink RX4 15 "PrefixLeader$Lines" "size" "I", .fieldLink RX4 29 "PrefixLeader$Lines" "bits" "[I", .fieldLink RX4 21 "PrefixLeader$Lines" "address" "[I", .static yX7_begins, .code yX7_begins cX7_begins 3 (some .boolean), .methodLink RX7 207 yX7_mask, .methodLink RX4 44 yX4_stepsDownTo, .static yX4_stepsDownTo, .code yX4_stepsDownTo cX4_stepsDownTo 1 (some .int)] ++ wsX20)
def wsX5_init : List Cond := .code yX5_init cX5_init 1 none :: ([.methodLink RX5 3 objectInit, .instanceMethod objectInit, .code objectInit ⟨#[0xb1]⟩ 1 none, .arrayClass .int, .fieldLink RX5 11 "PrefixLeader$Tree" "address" "[I", .fieldLink RX5 15 "PrefixLeader$Tree" "bits" "[I", .fieldLink RX5 18 "PrefixLeader$Tree" "goal" "[I", .fieldLink RX5 21 "PrefixLeader$Tree" "low" "[I", .fieldLink RX5 24 "PrefixLeader$Tree" "high" "[I", .fieldLink RX5 27 "PrefixLeader$Tree" "sets" "[I"] ++ wsX50)
def wsX5_both : List Cond := .code yX5_both cX5_both 2 (some .int) :: ([])
def wsX5_setOfSide : List Cond := .code yX5_setOfSide cX5_setOfSide 5 (some .int) :: ([.fieldLink RX5 18 "PrefixLeader$Tree" "goal" "[I", .fieldLink RX5 30 "PrefixLeader$Tree" "size" "I", .fieldLink RX5 15 "PrefixLeader$Tree" "bits" "[I", .fieldLink RX5 27 "PrefixLeader$Tree" "sets" "[I", .methodLink RX5 58 yX5_both, .static yX5_both, .initialized RX5, .code yX5_both cX5_both 2 (some .int)] ++ wsX50)
def wsX5_grow_r1 : List Cond := [Cond.fieldLink RX5 30 "PrefixLeader$Tree" "size" "I", Cond.fieldLink RX5 11 "PrefixLeader$Tree" "address" "[I", Cond.fieldLink RX5 15 "PrefixLeader$Tree" "bits" "[I", Cond.fieldLink RX5 18 "PrefixLeader$Tree" "goal" "[I", Cond.fieldLink RX5 45 "PrefixLeader$Lines" "goal" "[I", Cond.fieldLink RX5 21 "PrefixLeader$Tree" "low" "[I", Cond.fieldLink RX5 24 "PrefixLeader$Tree" "high" "[I", Cond.fieldLink RX5 27 "PrefixLeader$Tree" "sets" "[I", Cond.methodLink RX5 41 yX2_isAt, Cond.instanceMethod yX2_isAt, Cond.selects RX2 yX2_isAt yX2_isAt, Cond.initialized RX2, Cond.code yX2_isAt cX2_isAt 4 (some .boolean), Cond.fieldLink RX2 39 "PrefixLeader$Lines" "size" "I", Cond.fieldLink RX2 21 "PrefixLeader$Lines" "address" "[I", Cond.fieldLink RX2 25 "PrefixLeader$Lines" "bits" "[I", Cond.methodLink RX5 46 yX2_firstHigh, Cond.instanceMethod yX2_firstHigh, Cond.selects RX2 yX2_firstHigh yX2_firstHigh, Cond.code yX2_firstHigh cX2_firstHigh 5 (some .int), Cond.static yX7_bitAt, Cond.initialized RX7, Cond.code yX7_bitAt cX7_bitAt 1 (some .int), Cond.constant RX7 217 (-2147483648)]
def wsX5_grow_r2 : List Cond := [Cond.methodLink RX5 50 yX5_growSide, Cond.instanceMethod yX5_growSide, Cond.selects RX5 yX5_growSide yX5_growSide, Cond.initialized RX5, Cond.methodLink RX5 54 yX5_setOfSide, Cond.instanceMethod yX5_setOfSide, Cond.selects RX5 yX5_setOfSide yX5_setOfSide, Cond.code yX5_setOfSide cX5_setOfSide 5 (some .int), Cond.methodLink RX5 58 yX5_both, Cond.static yX5_both, Cond.code yX5_both cX5_both 2 (some .int), Cond.code yX5_growSide cX5_growSide 6 (some .int), Cond.fieldLink RX5 34 "PrefixLeader$Lines" "size" "I", Cond.fieldLink RX5 64 "PrefixLeader$Lines" "address" "[I", Cond.methodLink RX5 61 yX2_commonBits, Cond.instanceMethod yX2_commonBits, Cond.selects RX2 yX2_commonBits yX2_commonBits, Cond.code yX2_commonBits cX2_commonBits 3 (some .int), Cond.methodLink RX2 55 Lib.Math.min.name, Cond.static Lib.Math.min.name, Cond.initialized "java/lang/Math", Cond.code Lib.Math.min.name Lib.Math.min.code 2 (some .int), Cond.methodLink RX2 79 yJ6_numberOfLeadingZeros_0f7a4, Cond.static yJ6_numberOfLeadingZeros_0f7a4]
def wsX5_grow_r3 : List Cond := [Cond.initialized RJ6, Cond.code yJ6_numberOfLeadingZeros_0f7a4 cJ6_numberOfLeadingZeros_0f7a4 2 (some .int), Cond.constant RJ6 264 (65536), Cond.static yX7_mask, Cond.code yX7_mask cX7_mask 1 (some .int), Cond.methodLink RX7 210 Lib.Math.min.name, Cond.methodLink RX5 37 yX5_grow, Cond.instanceMethod yX5_grow, Cond.selects RX5 yX5_grow yX5_grow]
def wsX5_grow : List Cond := .code yX5_grow cX5_grow 11 (some .int) :: ((wsX5_grow_r1 ++ (wsX5_grow_r2 ++ wsX5_grow_r3)) ++ wsX50 ++ wsX20)
def wsX5_growSide_r1 : List Cond := [Cond.fieldLink RX5 34 "PrefixLeader$Lines" "size" "I", Cond.fieldLink RX5 64 "PrefixLeader$Lines" "address" "[I", Cond.methodLink RX5 61 yX2_commonBits, Cond.instanceMethod yX2_commonBits, Cond.selects RX2 yX2_commonBits yX2_commonBits, Cond.initialized RX2, Cond.code yX2_commonBits cX2_commonBits 3 (some .int), Cond.fieldLink RX2 25 "PrefixLeader$Lines" "bits" "[I", Cond.fieldLink RX2 21 "PrefixLeader$Lines" "address" "[I", Cond.methodLink RX2 55 Lib.Math.min.name, Cond.static Lib.Math.min.name, Cond.initialized "java/lang/Math", Cond.code Lib.Math.min.name Lib.Math.min.code 2 (some .int), Cond.methodLink RX2 79 yJ6_numberOfLeadingZeros_0f7a4, Cond.static yJ6_numberOfLeadingZeros_0f7a4, Cond.initialized RJ6, Cond.code yJ6_numberOfLeadingZeros_0f7a4 cJ6_numberOfLeadingZeros_0f7a4 2 (some .int), Cond.constant RJ6 264 (65536), Cond.static yX7_mask, Cond.initialized RX7, Cond.code yX7_mask cX7_mask 1 (some .int), Cond.methodLink RX7 210 Lib.Math.min.name, Cond.methodLink RX5 37 yX5_grow, Cond.instanceMethod yX5_grow]
def wsX5_growSide_r2 : List Cond := [Cond.selects RX5 yX5_grow yX5_grow, Cond.initialized RX5, Cond.code yX5_grow cX5_grow 11 (some .int), Cond.fieldLink RX5 30 "PrefixLeader$Tree" "size" "I", Cond.fieldLink RX5 11 "PrefixLeader$Tree" "address" "[I", Cond.fieldLink RX5 15 "PrefixLeader$Tree" "bits" "[I", Cond.fieldLink RX5 18 "PrefixLeader$Tree" "goal" "[I", Cond.fieldLink RX5 45 "PrefixLeader$Lines" "goal" "[I", Cond.fieldLink RX5 21 "PrefixLeader$Tree" "low" "[I", Cond.fieldLink RX5 24 "PrefixLeader$Tree" "high" "[I", Cond.fieldLink RX5 27 "PrefixLeader$Tree" "sets" "[I", Cond.methodLink RX5 41 yX2_isAt, Cond.instanceMethod yX2_isAt, Cond.selects RX2 yX2_isAt yX2_isAt, Cond.code yX2_isAt cX2_isAt 4 (some .boolean), Cond.fieldLink RX2 39 "PrefixLeader$Lines" "size" "I", Cond.methodLink RX5 46 yX2_firstHigh, Cond.instanceMethod yX2_firstHigh, Cond.selects RX2 yX2_firstHigh yX2_firstHigh, Cond.code yX2_firstHigh cX2_firstHigh 5 (some .int), Cond.static yX7_bitAt, Cond.code yX7_bitAt cX7_bitAt 1 (some .int), Cond.constant RX7 217 (-2147483648), Cond.methodLink RX5 50 yX5_growSide]
def wsX5_growSide_r3 : List Cond := [Cond.instanceMethod yX5_growSide, Cond.selects RX5 yX5_growSide yX5_growSide, Cond.methodLink RX5 54 yX5_setOfSide, Cond.instanceMethod yX5_setOfSide, Cond.selects RX5 yX5_setOfSide yX5_setOfSide, Cond.code yX5_setOfSide cX5_setOfSide 5 (some .int), Cond.methodLink RX5 58 yX5_both, Cond.static yX5_both, Cond.code yX5_both cX5_both 2 (some .int)]
def wsX5_growSide : List Cond := .code yX5_growSide cX5_growSide 6 (some .int) :: ((wsX5_growSide_r1 ++ (wsX5_growSide_r2 ++ wsX5_growSide_r3)) ++ wsX50 ++ wsX20)
def wsX5_plantWhole_r1 : List Cond := [Cond.fieldLink RX5 30 "PrefixLeader$Tree" "size" "I", Cond.fieldLink RX5 34 "PrefixLeader$Lines" "size" "I", Cond.methodLink RX5 37 yX5_grow, Cond.instanceMethod yX5_grow, Cond.selects RX5 yX5_grow yX5_grow, Cond.initialized RX5, Cond.code yX5_grow cX5_grow 11 (some .int), Cond.fieldLink RX5 11 "PrefixLeader$Tree" "address" "[I", Cond.fieldLink RX5 15 "PrefixLeader$Tree" "bits" "[I", Cond.fieldLink RX5 18 "PrefixLeader$Tree" "goal" "[I", Cond.fieldLink RX5 45 "PrefixLeader$Lines" "goal" "[I", Cond.fieldLink RX5 21 "PrefixLeader$Tree" "low" "[I", Cond.fieldLink RX5 24 "PrefixLeader$Tree" "high" "[I", Cond.fieldLink RX5 27 "PrefixLeader$Tree" "sets" "[I", Cond.methodLink RX5 41 yX2_isAt, Cond.instanceMethod yX2_isAt, Cond.selects RX2 yX2_isAt yX2_isAt, Cond.initialized RX2, Cond.code yX2_isAt cX2_isAt 4 (some .boolean), Cond.fieldLink RX2 39 "PrefixLeader$Lines" "size" "I", Cond.fieldLink RX2 21 "PrefixLeader$Lines" "address" "[I", Cond.fieldLink RX2 25 "PrefixLeader$Lines" "bits" "[I", Cond.methodLink RX5 46 yX2_firstHigh, Cond.instanceMethod yX2_firstHigh]
def wsX5_plantWhole_r2 : List Cond := [Cond.selects RX2 yX2_firstHigh yX2_firstHigh, Cond.code yX2_firstHigh cX2_firstHigh 5 (some .int), Cond.static yX7_bitAt, Cond.initialized RX7, Cond.code yX7_bitAt cX7_bitAt 1 (some .int), Cond.constant RX7 217 (-2147483648), Cond.methodLink RX5 50 yX5_growSide, Cond.instanceMethod yX5_growSide, Cond.selects RX5 yX5_growSide yX5_growSide, Cond.methodLink RX5 54 yX5_setOfSide, Cond.instanceMethod yX5_setOfSide, Cond.selects RX5 yX5_setOfSide yX5_setOfSide, Cond.code yX5_setOfSide cX5_setOfSide 5 (some .int), Cond.methodLink RX5 58 yX5_both, Cond.static yX5_both, Cond.code yX5_both cX5_both 2 (some .int), Cond.code yX5_growSide cX5_growSide 6 (some .int), Cond.fieldLink RX5 64 "PrefixLeader$Lines" "address" "[I", Cond.methodLink RX5 61 yX2_commonBits, Cond.instanceMethod yX2_commonBits, Cond.selects RX2 yX2_commonBits yX2_commonBits, Cond.code yX2_commonBits cX2_commonBits 3 (some .int), Cond.methodLink RX2 55 Lib.Math.min.name, Cond.static Lib.Math.min.name]
def wsX5_plantWhole_r3 : List Cond := [Cond.initialized "java/lang/Math", Cond.code Lib.Math.min.name Lib.Math.min.code 2 (some .int), Cond.methodLink RX2 79 yJ6_numberOfLeadingZeros_0f7a4, Cond.static yJ6_numberOfLeadingZeros_0f7a4, Cond.initialized RJ6, Cond.code yJ6_numberOfLeadingZeros_0f7a4 cJ6_numberOfLeadingZeros_0f7a4 2 (some .int), Cond.constant RJ6 264 (65536), Cond.static yX7_mask, Cond.code yX7_mask cX7_mask 1 (some .int), Cond.methodLink RX7 210 Lib.Math.min.name]
def wsX5_plantWhole : List Cond := .code yX5_plantWhole cX5_plantWhole 2 none :: ((wsX5_plantWhole_r1 ++ (wsX5_plantWhole_r2 ++ wsX5_plantWhole_r3)) ++ wsX50 ++ wsX20)
def wsX5_plant_r1 : List Cond := [Cond.fieldLink RX5 30 "PrefixLeader$Tree" "size" "I", Cond.methodLink RX5 37 yX5_grow, Cond.instanceMethod yX5_grow, Cond.selects RX5 yX5_grow yX5_grow, Cond.initialized RX5, Cond.code yX5_grow cX5_grow 11 (some .int), Cond.fieldLink RX5 11 "PrefixLeader$Tree" "address" "[I", Cond.fieldLink RX5 15 "PrefixLeader$Tree" "bits" "[I", Cond.fieldLink RX5 18 "PrefixLeader$Tree" "goal" "[I", Cond.fieldLink RX5 45 "PrefixLeader$Lines" "goal" "[I", Cond.fieldLink RX5 21 "PrefixLeader$Tree" "low" "[I", Cond.fieldLink RX5 24 "PrefixLeader$Tree" "high" "[I", Cond.fieldLink RX5 27 "PrefixLeader$Tree" "sets" "[I", Cond.methodLink RX5 41 yX2_isAt, Cond.instanceMethod yX2_isAt, Cond.selects RX2 yX2_isAt yX2_isAt, Cond.initialized RX2, Cond.code yX2_isAt cX2_isAt 4 (some .boolean), Cond.fieldLink RX2 39 "PrefixLeader$Lines" "size" "I", Cond.fieldLink RX2 21 "PrefixLeader$Lines" "address" "[I", Cond.fieldLink RX2 25 "PrefixLeader$Lines" "bits" "[I", Cond.methodLink RX5 46 yX2_firstHigh, Cond.instanceMethod yX2_firstHigh, Cond.selects RX2 yX2_firstHigh yX2_firstHigh]
def wsX5_plant_r2 : List Cond := [Cond.code yX2_firstHigh cX2_firstHigh 5 (some .int), Cond.static yX7_bitAt, Cond.initialized RX7, Cond.code yX7_bitAt cX7_bitAt 1 (some .int), Cond.constant RX7 217 (-2147483648), Cond.methodLink RX5 50 yX5_growSide, Cond.instanceMethod yX5_growSide, Cond.selects RX5 yX5_growSide yX5_growSide, Cond.methodLink RX5 54 yX5_setOfSide, Cond.instanceMethod yX5_setOfSide, Cond.selects RX5 yX5_setOfSide yX5_setOfSide, Cond.code yX5_setOfSide cX5_setOfSide 5 (some .int), Cond.methodLink RX5 58 yX5_both, Cond.static yX5_both, Cond.code yX5_both cX5_both 2 (some .int), Cond.code yX5_growSide cX5_growSide 6 (some .int), Cond.fieldLink RX5 34 "PrefixLeader$Lines" "size" "I", Cond.fieldLink RX5 64 "PrefixLeader$Lines" "address" "[I", Cond.methodLink RX5 61 yX2_commonBits, Cond.instanceMethod yX2_commonBits, Cond.selects RX2 yX2_commonBits yX2_commonBits, Cond.code yX2_commonBits cX2_commonBits 3 (some .int), Cond.methodLink RX2 55 Lib.Math.min.name, Cond.static Lib.Math.min.name]
def wsX5_plant_r3 : List Cond := [Cond.initialized "java/lang/Math", Cond.code Lib.Math.min.name Lib.Math.min.code 2 (some .int), Cond.methodLink RX2 79 yJ6_numberOfLeadingZeros_0f7a4, Cond.static yJ6_numberOfLeadingZeros_0f7a4, Cond.initialized RJ6, Cond.code yJ6_numberOfLeadingZeros_0f7a4 cJ6_numberOfLeadingZeros_0f7a4 2 (some .int), Cond.constant RJ6 264 (65536), Cond.static yX7_mask, Cond.code yX7_mask cX7_mask 1 (some .int), Cond.methodLink RX7 210 Lib.Math.min.name]
def wsX5_plant : List Cond := .code yX5_plant cX5_plant 7 none :: ((wsX5_plant_r1 ++ (wsX5_plant_r2 ++ wsX5_plant_r3)) ++ wsX50 ++ wsX20)
def wsX5_setOfTop : List Cond := .code yX5_setOfTop cX5_setOfTop 1 (some .int) :: ([.fieldLink RX5 30 "PrefixLeader$Tree" "size" "I", .fieldLink RX5 27 "PrefixLeader$Tree" "sets" "[I"] ++ wsX50)
def wsJ6_numberOfTrailingZeros_0f7a4 : List Cond := .code yJ6_numberOfTrailingZeros_0f7a4 cJ6_numberOfTrailingZeros_0f7a4 2 (some .int) :: ([.constant RJ6 264 (65536)])
def wsX5_writeIfNeeded : List Cond := .code yX5_writeIfNeeded cX5_writeIfNeeded 6 (some .int) :: ([.methodLink RX5 91 yJ6_numberOfTrailingZeros_0f7a4, .static yJ6_numberOfTrailingZeros_0f7a4, .initialized RJ6, .code yJ6_numberOfTrailingZeros_0f7a4 cJ6_numberOfTrailingZeros_0f7a4 2 (some .int), .constant RJ6 264 (65536), .methodLink RX5 96 yX2_append, .instanceMethod yX2_append, .selects RX2 yX2_append yX2_append, .initialized RX2, .code yX2_append cX2_append 4 none, .fieldLink RX2 39 "PrefixLeader$Lines" "size" "I", .fieldLink RX2 15 "PrefixLeader$Lines" "room" "I", .fieldLink RX2 21 "PrefixLeader$Lines" "address" "[I", .fieldLink RX2 25 "PrefixLeader$Lines" "bits" "[I", .fieldLink RX2 28 "PrefixLeader$Lines" "goal" "[I"] ++ wsX20)
def wsX5_writeNode_r1 : List Cond := [Cond.fieldLink RX5 30 "PrefixLeader$Tree" "size" "I", Cond.fieldLink RX5 11 "PrefixLeader$Tree" "address" "[I", Cond.fieldLink RX5 15 "PrefixLeader$Tree" "bits" "[I", Cond.fieldLink RX5 27 "PrefixLeader$Tree" "sets" "[I", Cond.fieldLink RX5 21 "PrefixLeader$Tree" "low" "[I", Cond.fieldLink RX5 24 "PrefixLeader$Tree" "high" "[I", Cond.methodLink RX5 76 yX5_writeIfNeeded, Cond.static yX5_writeIfNeeded, Cond.initialized RX5, Cond.code yX5_writeIfNeeded cX5_writeIfNeeded 6 (some .int), Cond.methodLink RX5 91 yJ6_numberOfTrailingZeros_0f7a4, Cond.static yJ6_numberOfTrailingZeros_0f7a4, Cond.initialized RJ6, Cond.code yJ6_numberOfTrailingZeros_0f7a4 cJ6_numberOfTrailingZeros_0f7a4 2 (some .int), Cond.constant RJ6 264 (65536), Cond.methodLink RX5 96 yX2_append, Cond.instanceMethod yX2_append, Cond.selects RX2 yX2_append yX2_append, Cond.initialized RX2, Cond.code yX2_append cX2_append 4 none, Cond.fieldLink RX2 39 "PrefixLeader$Lines" "size" "I", Cond.fieldLink RX2 15 "PrefixLeader$Lines" "room" "I", Cond.fieldLink RX2 21 "PrefixLeader$Lines" "address" "[I", Cond.fieldLink RX2 25 "PrefixLeader$Lines" "bits" "[I"]
def wsX5_writeNode_r2 : List Cond := [Cond.fieldLink RX2 28 "PrefixLeader$Lines" "goal" "[I", Cond.methodLink RX5 80 yX5_writeSide, Cond.instanceMethod yX5_writeSide, Cond.selects RX5 yX5_writeSide yX5_writeSide, Cond.static yX7_bitAt, Cond.initialized RX7, Cond.code yX7_bitAt cX7_bitAt 1 (some .int), Cond.constant RX7 217 (-2147483648), Cond.code yX5_writeSide cX5_writeSide 9 none, Cond.methodLink RX5 72 yX5_writeNode, Cond.instanceMethod yX5_writeNode, Cond.selects RX5 yX5_writeNode yX5_writeNode, Cond.methodLink RX5 54 yX5_setOfSide, Cond.instanceMethod yX5_setOfSide, Cond.selects RX5 yX5_setOfSide yX5_setOfSide, Cond.code yX5_setOfSide cX5_setOfSide 5 (some .int), Cond.fieldLink RX5 18 "PrefixLeader$Tree" "goal" "[I", Cond.methodLink RX5 58 yX5_both, Cond.static yX5_both, Cond.code yX5_both cX5_both 2 (some .int), Cond.methodLink RX5 87 yX5_writeWithTwin, Cond.instanceMethod yX5_writeWithTwin, Cond.selects RX5 yX5_writeWithTwin yX5_writeWithTwin, Cond.code yX5_writeWithTwin cX5_writeWithTwin 10 none]
def wsX5_writeNode : List Cond := .code yX5_writeNode cX5_writeNode 6 none :: ((wsX5_writeNode_r1 ++ wsX5_writeNode_r2) ++ wsX50 ++ wsX20)
def wsX5_writeSide_r1 : List Cond := [Cond.fieldLink RX5 15 "PrefixLeader$Tree" "bits" "[I", Cond.fieldLink RX5 30 "PrefixLeader$Tree" "size" "I", Cond.methodLink RX5 72 yX5_writeNode, Cond.instanceMethod yX5_writeNode, Cond.selects RX5 yX5_writeNode yX5_writeNode, Cond.initialized RX5, Cond.methodLink RX5 54 yX5_setOfSide, Cond.instanceMethod yX5_setOfSide, Cond.selects RX5 yX5_setOfSide yX5_setOfSide, Cond.code yX5_setOfSide cX5_setOfSide 5 (some .int), Cond.fieldLink RX5 18 "PrefixLeader$Tree" "goal" "[I", Cond.fieldLink RX5 27 "PrefixLeader$Tree" "sets" "[I", Cond.methodLink RX5 58 yX5_both, Cond.static yX5_both, Cond.code yX5_both cX5_both 2 (some .int), Cond.methodLink RX5 76 yX5_writeIfNeeded, Cond.static yX5_writeIfNeeded, Cond.code yX5_writeIfNeeded cX5_writeIfNeeded 6 (some .int), Cond.methodLink RX5 91 yJ6_numberOfTrailingZeros_0f7a4, Cond.static yJ6_numberOfTrailingZeros_0f7a4, Cond.initialized RJ6, Cond.code yJ6_numberOfTrailingZeros_0f7a4 cJ6_numberOfTrailingZeros_0f7a4 2 (some .int), Cond.constant RJ6 264 (65536), Cond.methodLink RX5 96 yX2_append]
def wsX5_writeSide_r2 : List Cond := [Cond.instanceMethod yX2_append, Cond.selects RX2 yX2_append yX2_append, Cond.initialized RX2, Cond.code yX2_append cX2_append 4 none, Cond.fieldLink RX2 39 "PrefixLeader$Lines" "size" "I", Cond.fieldLink RX2 15 "PrefixLeader$Lines" "room" "I", Cond.fieldLink RX2 21 "PrefixLeader$Lines" "address" "[I", Cond.fieldLink RX2 25 "PrefixLeader$Lines" "bits" "[I", Cond.fieldLink RX2 28 "PrefixLeader$Lines" "goal" "[I", Cond.methodLink RX5 87 yX5_writeWithTwin, Cond.instanceMethod yX5_writeWithTwin, Cond.selects RX5 yX5_writeWithTwin yX5_writeWithTwin, Cond.code yX5_writeNode cX5_writeNode 6 none, Cond.fieldLink RX5 11 "PrefixLeader$Tree" "address" "[I", Cond.fieldLink RX5 21 "PrefixLeader$Tree" "low" "[I", Cond.fieldLink RX5 24 "PrefixLeader$Tree" "high" "[I", Cond.methodLink RX5 80 yX5_writeSide, Cond.instanceMethod yX5_writeSide, Cond.selects RX5 yX5_writeSide yX5_writeSide, Cond.static yX7_bitAt, Cond.initialized RX7, Cond.code yX7_bitAt cX7_bitAt 1 (some .int), Cond.constant RX7 217 (-2147483648), Cond.code yX5_writeWithTwin cX5_writeWithTwin 10 none]
def wsX5_writeSide : List Cond := .code yX5_writeSide cX5_writeSide 9 none :: ((wsX5_writeSide_r1 ++ wsX5_writeSide_r2) ++ wsX50 ++ wsX20)
def wsX5_writeWithTwin_r1 : List Cond := [Cond.fieldLink RX5 15 "PrefixLeader$Tree" "bits" "[I", Cond.fieldLink RX5 11 "PrefixLeader$Tree" "address" "[I", Cond.fieldLink RX5 18 "PrefixLeader$Tree" "goal" "[I", Cond.static yX7_bitAt, Cond.initialized RX7, Cond.code yX7_bitAt cX7_bitAt 1 (some .int), Cond.constant RX7 217 (-2147483648), Cond.methodLink RX5 76 yX5_writeIfNeeded, Cond.static yX5_writeIfNeeded, Cond.initialized RX5, Cond.code yX5_writeIfNeeded cX5_writeIfNeeded 6 (some .int), Cond.methodLink RX5 91 yJ6_numberOfTrailingZeros_0f7a4, Cond.static yJ6_numberOfTrailingZeros_0f7a4, Cond.initialized RJ6, Cond.code yJ6_numberOfTrailingZeros_0f7a4 cJ6_numberOfTrailingZeros_0f7a4 2 (some .int), Cond.constant RJ6 264 (65536), Cond.methodLink RX5 96 yX2_append, Cond.instanceMethod yX2_append, Cond.selects RX2 yX2_append yX2_append, Cond.initialized RX2, Cond.code yX2_append cX2_append 4 none, Cond.fieldLink RX2 39 "PrefixLeader$Lines" "size" "I", Cond.fieldLink RX2 15 "PrefixLeader$Lines" "room" "I", Cond.fieldLink RX2 21 "PrefixLeader$Lines" "address" "[I"]
def wsX5_writeWithTwin_r2 : List Cond := [Cond.fieldLink RX2 25 "PrefixLeader$Lines" "bits" "[I", Cond.fieldLink RX2 28 "PrefixLeader$Lines" "goal" "[I", Cond.methodLink RX5 72 yX5_writeNode, Cond.instanceMethod yX5_writeNode, Cond.selects RX5 yX5_writeNode yX5_writeNode, Cond.code yX5_writeNode cX5_writeNode 6 none, Cond.fieldLink RX5 30 "PrefixLeader$Tree" "size" "I", Cond.fieldLink RX5 27 "PrefixLeader$Tree" "sets" "[I", Cond.fieldLink RX5 21 "PrefixLeader$Tree" "low" "[I", Cond.fieldLink RX5 24 "PrefixLeader$Tree" "high" "[I", Cond.methodLink RX5 80 yX5_writeSide, Cond.instanceMethod yX5_writeSide, Cond.selects RX5 yX5_writeSide yX5_writeSide, Cond.code yX5_writeSide cX5_writeSide 9 none, Cond.methodLink RX5 54 yX5_setOfSide, Cond.instanceMethod yX5_setOfSide, Cond.selects RX5 yX5_setOfSide yX5_setOfSide, Cond.code yX5_setOfSide cX5_setOfSide 5 (some .int), Cond.methodLink RX5 58 yX5_both, Cond.static yX5_both, Cond.code yX5_both cX5_both 2 (some .int), Cond.methodLink RX5 87 yX5_writeWithTwin, Cond.instanceMethod yX5_writeWithTwin, Cond.selects RX5 yX5_writeWithTwin yX5_writeWithTwin]
def wsX5_writeWithTwin : List Cond := .code yX5_writeWithTwin cX5_writeWithTwin 10 none :: ((wsX5_writeWithTwin_r1 ++ wsX5_writeWithTwin_r2) ++ wsX50 ++ wsX20)
def wsX5_writeLeast_r1 : List Cond := [Cond.methodLink RX5 69 yX2_clear, Cond.instanceMethod yX2_clear, Cond.selects RX2 yX2_clear yX2_clear, Cond.initialized RX2, Cond.code yX2_clear cX2_clear 1 none, Cond.fieldLink RX2 39 "PrefixLeader$Lines" "size" "I", Cond.methodLink RX5 72 yX5_writeNode, Cond.instanceMethod yX5_writeNode, Cond.selects RX5 yX5_writeNode yX5_writeNode, Cond.initialized RX5, Cond.code yX5_writeNode cX5_writeNode 6 none, Cond.fieldLink RX5 30 "PrefixLeader$Tree" "size" "I", Cond.fieldLink RX5 11 "PrefixLeader$Tree" "address" "[I", Cond.fieldLink RX5 15 "PrefixLeader$Tree" "bits" "[I", Cond.fieldLink RX5 27 "PrefixLeader$Tree" "sets" "[I", Cond.fieldLink RX5 21 "PrefixLeader$Tree" "low" "[I", Cond.fieldLink RX5 24 "PrefixLeader$Tree" "high" "[I", Cond.methodLink RX5 76 yX5_writeIfNeeded, Cond.static yX5_writeIfNeeded, Cond.code yX5_writeIfNeeded cX5_writeIfNeeded 6 (some .int), Cond.methodLink RX5 91 yJ6_numberOfTrailingZeros_0f7a4, Cond.static yJ6_numberOfTrailingZeros_0f7a4, Cond.initialized RJ6, Cond.code yJ6_numberOfTrailingZeros_0f7a4 cJ6_numberOfTrailingZeros_0f7a4 2 (some .int)]
def wsX5_writeLeast_r2 : List Cond := [Cond.constant RJ6 264 (65536), Cond.methodLink RX5 96 yX2_append, Cond.instanceMethod yX2_append, Cond.selects RX2 yX2_append yX2_append, Cond.code yX2_append cX2_append 4 none, Cond.fieldLink RX2 15 "PrefixLeader$Lines" "room" "I", Cond.fieldLink RX2 21 "PrefixLeader$Lines" "address" "[I", Cond.fieldLink RX2 25 "PrefixLeader$Lines" "bits" "[I", Cond.fieldLink RX2 28 "PrefixLeader$Lines" "goal" "[I", Cond.methodLink RX5 80 yX5_writeSide, Cond.instanceMethod yX5_writeSide, Cond.selects RX5 yX5_writeSide yX5_writeSide, Cond.static yX7_bitAt, Cond.initialized RX7, Cond.code yX7_bitAt cX7_bitAt 1 (some .int), Cond.constant RX7 217 (-2147483648), Cond.code yX5_writeSide cX5_writeSide 9 none, Cond.methodLink RX5 54 yX5_setOfSide, Cond.instanceMethod yX5_setOfSide, Cond.selects RX5 yX5_setOfSide yX5_setOfSide, Cond.code yX5_setOfSide cX5_setOfSide 5 (some .int), Cond.fieldLink RX5 18 "PrefixLeader$Tree" "goal" "[I", Cond.methodLink RX5 58 yX5_both, Cond.static yX5_both]
def wsX5_writeLeast_r3 : List Cond := [Cond.code yX5_both cX5_both 2 (some .int), Cond.methodLink RX5 87 yX5_writeWithTwin, Cond.instanceMethod yX5_writeWithTwin, Cond.selects RX5 yX5_writeWithTwin yX5_writeWithTwin, Cond.code yX5_writeWithTwin cX5_writeWithTwin 10 none]
def wsX5_writeLeast : List Cond := .code yX5_writeLeast cX5_writeLeast 2 none :: ((wsX5_writeLeast_r1 ++ (wsX5_writeLeast_r2 ++ wsX5_writeLeast_r3)) ++ wsX20 ++ wsX50)
def wsX6_init : List Cond := .code yX6_init cX6_init 1 none :: ([.methodLink RX6 3 objectInit, .instanceMethod objectInit, .code objectInit ⟨#[0xb1]⟩ 1 none, .classLink RX6 9 RX2, .instantiable RX2 5, .initialized RX2, .fieldLink RX6 14 "PrefixLeader$Way" "start" "LPrefixLeader$Lines;", .fieldLink RX6 20 "PrefixLeader$Way" "puts" "LPrefixLeader$Lines;", .fieldLink RX6 23 "PrefixLeader$Way" "drops" "LPrefixLeader$Lines;", .arrayClass .int, .fieldLink RX6 26 "PrefixLeader$Way" "goalByBits" "[I", .fieldLink RX6 30 "PrefixLeader$Way" "size" "I", .methodLink RX6 11 yX2_init, .instanceMethod yX2_init, .code yX2_init cX2_init 2 none, .methodLink RX2 3 objectInit, .methodLink RX2 9 Lib.Math.max.name, .static Lib.Math.max.name, .initialized "java/lang/Math", .code Lib.Math.max.name Lib.Math.max.code 2 (some .int), .fieldLink RX2 15 "PrefixLeader$Lines" "room" "I", .fieldLink RX2 21 "PrefixLeader$Lines" "address" "[I", .fieldLink RX2 25 "PrefixLeader$Lines" "bits" "[I", .fieldLink RX2 28 "PrefixLeader$Lines" "goal" "[I"] ++ wsX20 ++ wsX60)
def wsX6_appendPuts_r1 : List Cond := [Cond.fieldLink RX6 48 "PrefixLeader$Lines" "size" "I", Cond.fieldLink RX6 49 "PrefixLeader$Lines" "bits" "[I", Cond.fieldLink RX6 52 "PrefixLeader$Lines" "address" "[I", Cond.fieldLink RX6 55 "PrefixLeader$Lines" "goal" "[I", Cond.fieldLink RX6 20 "PrefixLeader$Way" "puts" "LPrefixLeader$Lines;", Cond.methodLink RX6 58 yX2_hasLine, Cond.instanceMethod yX2_hasLine, Cond.selects RX2 yX2_hasLine yX2_hasLine, Cond.initialized RX2, Cond.code yX2_hasLine cX2_hasLine 5 (some .boolean), Cond.fieldLink RX2 28 "PrefixLeader$Lines" "goal" "[I", Cond.methodLink RX2 42 yX2_placeOf, Cond.instanceMethod yX2_placeOf, Cond.selects RX2 yX2_placeOf yX2_placeOf, Cond.code yX2_placeOf cX2_placeOf 4 (some .int), Cond.fieldLink RX2 39 "PrefixLeader$Lines" "size" "I", Cond.methodLink RX2 49 yX2_isAhead, Cond.instanceMethod yX2_isAhead, Cond.selects RX2 yX2_isAhead yX2_isAhead, Cond.code yX2_isAhead cX2_isAhead 4 (some .boolean), Cond.fieldLink RX2 21 "PrefixLeader$Lines" "address" "[I", Cond.fieldLink RX2 25 "PrefixLeader$Lines" "bits" "[I", Cond.static yX7_wide, Cond.initialized RX7]
def wsX6_appendPuts_r2 : List Cond := [Cond.code yX7_wide cX7_wide 1 (some .long), Cond.constantLong RX7 218 (4294967295), Cond.methodLink RX2 45 yX2_isAt, Cond.instanceMethod yX2_isAt, Cond.selects RX2 yX2_isAt yX2_isAt, Cond.code yX2_isAt cX2_isAt 4 (some .boolean), Cond.methodLink RX6 62 yX2_append, Cond.instanceMethod yX2_append, Cond.selects RX2 yX2_append yX2_append, Cond.code yX2_append cX2_append 4 none, Cond.fieldLink RX2 15 "PrefixLeader$Lines" "room" "I"]
def wsX6_appendPuts : List Cond := .code yX6_appendPuts cX6_appendPuts 5 none :: ((wsX6_appendPuts_r1 ++ wsX6_appendPuts_r2) ++ wsX20 ++ wsX60)
def wsX6_appendDrops_r1 : List Cond := [Cond.fieldLink RX6 48 "PrefixLeader$Lines" "size" "I", Cond.fieldLink RX6 49 "PrefixLeader$Lines" "bits" "[I", Cond.fieldLink RX6 52 "PrefixLeader$Lines" "address" "[I", Cond.fieldLink RX6 23 "PrefixLeader$Way" "drops" "LPrefixLeader$Lines;", Cond.fieldLink RX6 55 "PrefixLeader$Lines" "goal" "[I", Cond.methodLink RX6 66 yX2_hasBeginning, Cond.instanceMethod yX2_hasBeginning, Cond.selects RX2 yX2_hasBeginning yX2_hasBeginning, Cond.initialized RX2, Cond.code yX2_hasBeginning cX2_hasBeginning 3 (some .boolean), Cond.methodLink RX2 42 yX2_placeOf, Cond.instanceMethod yX2_placeOf, Cond.selects RX2 yX2_placeOf yX2_placeOf, Cond.code yX2_placeOf cX2_placeOf 4 (some .int), Cond.fieldLink RX2 39 "PrefixLeader$Lines" "size" "I", Cond.methodLink RX2 49 yX2_isAhead, Cond.instanceMethod yX2_isAhead, Cond.selects RX2 yX2_isAhead yX2_isAhead, Cond.code yX2_isAhead cX2_isAhead 4 (some .boolean), Cond.fieldLink RX2 21 "PrefixLeader$Lines" "address" "[I", Cond.fieldLink RX2 25 "PrefixLeader$Lines" "bits" "[I", Cond.static yX7_wide, Cond.initialized RX7, Cond.code yX7_wide cX7_wide 1 (some .long)]
def wsX6_appendDrops_r2 : List Cond := [Cond.constantLong RX7 218 (4294967295), Cond.methodLink RX2 45 yX2_isAt, Cond.instanceMethod yX2_isAt, Cond.selects RX2 yX2_isAt yX2_isAt, Cond.code yX2_isAt cX2_isAt 4 (some .boolean), Cond.methodLink RX6 62 yX2_append, Cond.instanceMethod yX2_append, Cond.selects RX2 yX2_append yX2_append, Cond.code yX2_append cX2_append 4 none, Cond.fieldLink RX2 15 "PrefixLeader$Lines" "room" "I", Cond.fieldLink RX2 28 "PrefixLeader$Lines" "goal" "[I"]
def wsX6_appendDrops : List Cond := .code yX6_appendDrops cX6_appendDrops 5 none :: ((wsX6_appendDrops_r1 ++ wsX6_appendDrops_r2) ++ wsX20 ++ wsX60)
def wsX6_lay_r1 : List Cond := [Cond.fieldLink RX6 14 "PrefixLeader$Way" "start" "LPrefixLeader$Lines;", Cond.fieldLink RX6 20 "PrefixLeader$Way" "puts" "LPrefixLeader$Lines;", Cond.fieldLink RX6 23 "PrefixLeader$Way" "drops" "LPrefixLeader$Lines;", Cond.fieldLink RX6 48 "PrefixLeader$Lines" "size" "I", Cond.fieldLink RX6 30 "PrefixLeader$Way" "size" "I", Cond.methodLink RX6 34 yX2_become, Cond.instanceMethod yX2_become, Cond.selects RX2 yX2_become yX2_become, Cond.initialized RX2, Cond.code yX2_become cX2_become 4 none, Cond.fieldLink RX2 39 "PrefixLeader$Lines" "size" "I", Cond.fieldLink RX2 15 "PrefixLeader$Lines" "room" "I", Cond.methodLink RX2 55 Lib.Math.min.name, Cond.static Lib.Math.min.name, Cond.initialized "java/lang/Math", Cond.code Lib.Math.min.name Lib.Math.min.code 2 (some .int), Cond.fieldLink RX2 21 "PrefixLeader$Lines" "address" "[I", Cond.fieldLink RX2 25 "PrefixLeader$Lines" "bits" "[I", Cond.fieldLink RX2 28 "PrefixLeader$Lines" "goal" "[I", Cond.methodLink RX2 61 yX2_write, Cond.instanceMethod yX2_write, Cond.selects RX2 yX2_write yX2_write, Cond.code yX2_write cX2_write 5 none, Cond.methodLink RX6 38 yX2_clear]
def wsX6_lay_r2 : List Cond := [Cond.instanceMethod yX2_clear, Cond.selects RX2 yX2_clear yX2_clear, Cond.code yX2_clear cX2_clear 1 none, Cond.methodLink RX6 41 yX6_appendPuts, Cond.instanceMethod yX6_appendPuts, Cond.selects RX6 yX6_appendPuts yX6_appendPuts, Cond.initialized RX6, Cond.code yX6_appendPuts cX6_appendPuts 5 none, Cond.fieldLink RX6 49 "PrefixLeader$Lines" "bits" "[I", Cond.fieldLink RX6 52 "PrefixLeader$Lines" "address" "[I", Cond.fieldLink RX6 55 "PrefixLeader$Lines" "goal" "[I", Cond.methodLink RX6 58 yX2_hasLine, Cond.instanceMethod yX2_hasLine, Cond.selects RX2 yX2_hasLine yX2_hasLine, Cond.code yX2_hasLine cX2_hasLine 5 (some .boolean), Cond.methodLink RX2 42 yX2_placeOf, Cond.instanceMethod yX2_placeOf, Cond.selects RX2 yX2_placeOf yX2_placeOf, Cond.code yX2_placeOf cX2_placeOf 4 (some .int), Cond.methodLink RX2 49 yX2_isAhead, Cond.instanceMethod yX2_isAhead, Cond.selects RX2 yX2_isAhead yX2_isAhead, Cond.code yX2_isAhead cX2_isAhead 4 (some .boolean), Cond.static yX7_wide]
def wsX6_lay_r3 : List Cond := [Cond.initialized RX7, Cond.code yX7_wide cX7_wide 1 (some .long), Cond.constantLong RX7 218 (4294967295), Cond.methodLink RX2 45 yX2_isAt, Cond.instanceMethod yX2_isAt, Cond.selects RX2 yX2_isAt yX2_isAt, Cond.code yX2_isAt cX2_isAt 4 (some .boolean), Cond.methodLink RX6 62 yX2_append, Cond.instanceMethod yX2_append, Cond.selects RX2 yX2_append yX2_append, Cond.code yX2_append cX2_append 4 none, Cond.methodLink RX6 45 yX6_appendDrops, Cond.instanceMethod yX6_appendDrops, Cond.selects RX6 yX6_appendDrops yX6_appendDrops, Cond.code yX6_appendDrops cX6_appendDrops 5 none, Cond.methodLink RX6 66 yX2_hasBeginning, Cond.instanceMethod yX2_hasBeginning, Cond.selects RX2 yX2_hasBeginning yX2_hasBeginning, Cond.code yX2_hasBeginning cX2_hasBeginning 3 (some .boolean)]
def wsX6_lay : List Cond := .code yX6_lay cX6_lay 4 none :: ((wsX6_lay_r1 ++ (wsX6_lay_r2 ++ wsX6_lay_r3)) ++ wsX60 ++ wsX20)
def wsX6_tell : List Cond := .code yX6_tell cX6_tell 6 (some .long) :: ([.fieldLink RX6 30 "PrefixLeader$Way" "size" "I", .constantLong RX6 70 (-1), .fieldLink RX6 20 "PrefixLeader$Way" "puts" "LPrefixLeader$Lines;", .fieldLink RX6 48 "PrefixLeader$Lines" "size" "I", .fieldLink RX6 23 "PrefixLeader$Way" "drops" "LPrefixLeader$Lines;", .fieldLink RX6 49 "PrefixLeader$Lines" "bits" "[I", .fieldLink RX6 55 "PrefixLeader$Lines" "goal" "[I", .methodLink RX6 72 yX2_first, .instanceMethod yX2_first, .selects RX2 yX2_first yX2_first, .initialized RX2, .code yX2_first cX2_first 2 (some .long), .fieldLink RX2 21 "PrefixLeader$Lines" "address" "[I", .static yX7_wide, .initialized RX7, .code yX7_wide cX7_wide 1 (some .long), .constantLong RX7 218 (4294967295)] ++ wsX60 ++ wsX20)
def wsX6_noteHolders : List Cond := .code yX6_noteHolders cX6_noteHolders 6 none :: ([.fieldLink RX6 48 "PrefixLeader$Lines" "size" "I", .fieldLink RX6 52 "PrefixLeader$Lines" "address" "[I", .fieldLink RX6 49 "PrefixLeader$Lines" "bits" "[I", .fieldLink RX6 26 "PrefixLeader$Way" "goalByBits" "[I", .fieldLink RX6 55 "PrefixLeader$Lines" "goal" "[I", .static yX7_begins, .initialized RX7, .code yX7_begins cX7_begins 3 (some .boolean), .methodLink RX7 207 yX7_mask, .static yX7_mask, .code yX7_mask cX7_mask 1 (some .int), .methodLink RX7 210 Lib.Math.min.name, .static Lib.Math.min.name, .initialized "java/lang/Math", .code Lib.Math.min.name Lib.Math.min.code 2 (some .int)] ++ wsX20 ++ wsX60)
def wsX6_goalBehind_r1 : List Cond := [Cond.fieldLink RX6 30 "PrefixLeader$Way" "size" "I", Cond.fieldLink RX6 26 "PrefixLeader$Way" "goalByBits" "[I", Cond.fieldLink RX6 14 "PrefixLeader$Way" "start" "LPrefixLeader$Lines;", Cond.fieldLink RX6 48 "PrefixLeader$Lines" "size" "I", Cond.fieldLink RX6 20 "PrefixLeader$Way" "puts" "LPrefixLeader$Lines;", Cond.methodLink RX6 80 Lib.Math.min.name, Cond.static Lib.Math.min.name, Cond.initialized "java/lang/Math", Cond.code Lib.Math.min.name Lib.Math.min.code 2 (some .int), Cond.fieldLink RX6 23 "PrefixLeader$Way" "drops" "LPrefixLeader$Lines;", Cond.methodLink RX6 76 yX6_noteHolders, Cond.instanceMethod yX6_noteHolders, Cond.selects RX6 yX6_noteHolders yX6_noteHolders, Cond.initialized RX6, Cond.code yX6_noteHolders cX6_noteHolders 6 none, Cond.fieldLink RX6 52 "PrefixLeader$Lines" "address" "[I", Cond.fieldLink RX6 49 "PrefixLeader$Lines" "bits" "[I", Cond.fieldLink RX6 55 "PrefixLeader$Lines" "goal" "[I", Cond.static yX7_begins, Cond.initialized RX7, Cond.code yX7_begins cX7_begins 3 (some .boolean), Cond.methodLink RX7 207 yX7_mask, Cond.static yX7_mask, Cond.code yX7_mask cX7_mask 1 (some .int)]
def wsX6_goalBehind_r2 : List Cond := [Cond.methodLink RX7 210 Lib.Math.min.name]
def wsX6_goalBehind : List Cond := .code yX6_goalBehind cX6_goalBehind 4 (some .int) :: ((wsX6_goalBehind_r1 ++ wsX6_goalBehind_r2) ++ wsX60 ++ wsX20)
def wsX7_init_r1 : List Cond := [Cond.methodLink RX7 1 objectInit, Cond.instanceMethod objectInit, Cond.code objectInit ⟨#[0xb1]⟩ 1 none, Cond.classLink RX7 9 RX2, Cond.fieldLink RX7 11 "PrefixLeader" "books" "[LPrefixLeader$Lines;", Cond.instantiable RX2 5, Cond.initialized RX2, Cond.fieldLink RX7 18 "PrefixLeader" "together" "LPrefixLeader$Lines;", Cond.fieldLink RX7 22 "PrefixLeader" "fewest" "LPrefixLeader$Lines;", Cond.classLink RX7 25 RX5, Cond.instantiable RX5 7, Cond.initialized RX5, Cond.fieldLink RX7 28 "PrefixLeader" "tree" "LPrefixLeader$Tree;", Cond.classLink RX7 32 RX3, Cond.instantiable RX3 6, Cond.initialized RX3, Cond.fieldLink RX7 35 "PrefixLeader" "spansOfOne" "LPrefixLeader$Spans;", Cond.fieldLink RX7 39 "PrefixLeader" "spansOfOther" "LPrefixLeader$Spans;", Cond.classLink RX7 42 RX1, Cond.instantiable RX1 2, Cond.initialized RX1, Cond.fieldLink RX7 45 "PrefixLeader" "difference" "LPrefixLeader$Difference;", Cond.classLink RX7 49 RX0, Cond.instantiable RX0 3]
def wsX7_init_r2 : List Cond := [Cond.initialized RX0, Cond.fieldLink RX7 52 "PrefixLeader" "latestCover" "LPrefixLeader$Cover;", Cond.classLink RX7 56 RX6, Cond.instantiable RX6 5, Cond.initialized RX6, Cond.fieldLink RX7 59 "PrefixLeader" "latestWay" "LPrefixLeader$Way;", Cond.methodLink RX7 15 yX2_init, Cond.instanceMethod yX2_init, Cond.code yX2_init cX2_init 2 none, Cond.methodLink RX2 3 objectInit, Cond.methodLink RX2 9 Lib.Math.max.name, Cond.static Lib.Math.max.name, Cond.initialized "java/lang/Math", Cond.code Lib.Math.max.name Lib.Math.max.code 2 (some .int), Cond.fieldLink RX2 15 "PrefixLeader$Lines" "room" "I", Cond.arrayClass .int, Cond.fieldLink RX2 21 "PrefixLeader$Lines" "address" "[I", Cond.fieldLink RX2 25 "PrefixLeader$Lines" "bits" "[I", Cond.fieldLink RX2 28 "PrefixLeader$Lines" "goal" "[I", Cond.instanceMethod yX5_init, Cond.code yX5_init cX5_init 1 none, Cond.methodLink RX5 3 objectInit, Cond.fieldLink RX5 11 "PrefixLeader$Tree" "address" "[I", Cond.fieldLink RX5 15 "PrefixLeader$Tree" "bits" "[I"]
def wsX7_init_r3 : List Cond := [Cond.fieldLink RX5 18 "PrefixLeader$Tree" "goal" "[I", Cond.fieldLink RX5 21 "PrefixLeader$Tree" "low" "[I", Cond.fieldLink RX5 24 "PrefixLeader$Tree" "high" "[I", Cond.fieldLink RX5 27 "PrefixLeader$Tree" "sets" "[I", Cond.instanceMethod yX3_init, Cond.code yX3_init cX3_init 1 none, Cond.methodLink RX3 3 objectInit, Cond.arrayClass .long, Cond.fieldLink RX3 11 "PrefixLeader$Spans" "first" "[J", Cond.fieldLink RX3 15 "PrefixLeader$Spans" "goal" "[I", Cond.fieldLink RX3 19 "PrefixLeader$Spans" "open" "[I", Cond.instanceMethod yX1_init, Cond.code yX1_init cX1_init 1 none, Cond.methodLink RX1 5 objectInit, Cond.instanceMethod yX0_init, Cond.code yX0_init cX0_init 1 none, Cond.methodLink RX0 3 objectInit, Cond.fieldLink RX0 11 "PrefixLeader$Cover" "address" "[J", Cond.fieldLink RX0 15 "PrefixLeader$Cover" "bits" "[I", Cond.instanceMethod yX6_init, Cond.code yX6_init cX6_init 1 none, Cond.methodLink RX6 3 objectInit, Cond.classLink RX6 9 RX2, Cond.fieldLink RX6 14 "PrefixLeader$Way" "start" "LPrefixLeader$Lines;"]
def wsX7_init_r4 : List Cond := [Cond.fieldLink RX6 20 "PrefixLeader$Way" "puts" "LPrefixLeader$Lines;", Cond.fieldLink RX6 23 "PrefixLeader$Way" "drops" "LPrefixLeader$Lines;", Cond.fieldLink RX6 26 "PrefixLeader$Way" "goalByBits" "[I", Cond.fieldLink RX6 30 "PrefixLeader$Way" "size" "I", Cond.methodLink RX6 11 yX2_init]
def wsX7_init : List Cond := .code yX7_init cX7_init 2 none :: ((wsX7_init_r1 ++ (wsX7_init_r2 ++ (wsX7_init_r3 ++ wsX7_init_r4))) ++ wsX70 ++ wsX20 ++ wsX50 ++ wsX30 ++ wsX10 ++ wsX00 ++ wsX60)
def wsX7_isBook : List Cond := .code yX7_isBook cX7_isBook 1 (some .boolean) :: ([])
def wsX7_isBeginning : List Cond := .code yX7_isBeginning cX7_isBeginning 2 (some .boolean) :: ([.methodLink RX7 207 yX7_mask, .static yX7_mask, .initialized RX7, .code yX7_mask cX7_mask 1 (some .int), .methodLink RX7 210 Lib.Math.min.name, .static Lib.Math.min.name, .initialized "java/lang/Math", .code Lib.Math.min.name Lib.Math.min.code 2 (some .int)])
def wsX7_isGoal : List Cond := .code yX7_isGoal cX7_isGoal 1 (some .boolean) :: ([])
def wsX7_put_r1 : List Cond := [Cond.fieldLink RX7 11 "PrefixLeader" "books" "[LPrefixLeader$Lines;", Cond.fieldLink RX7 82 "PrefixLeader$Lines" "goal" "[I", Cond.methodLink RX7 63 yX7_isBook, Cond.static yX7_isBook, Cond.initialized RX7, Cond.code yX7_isBook cX7_isBook 1 (some .boolean), Cond.methodLink RX7 67 yX7_isBeginning, Cond.static yX7_isBeginning, Cond.code yX7_isBeginning cX7_isBeginning 2 (some .boolean), Cond.methodLink RX7 207 yX7_mask, Cond.static yX7_mask, Cond.code yX7_mask cX7_mask 1 (some .int), Cond.methodLink RX7 210 Lib.Math.min.name, Cond.static Lib.Math.min.name, Cond.initialized "java/lang/Math", Cond.code Lib.Math.min.name Lib.Math.min.code 2 (some .int), Cond.methodLink RX7 71 yX7_isGoal, Cond.static yX7_isGoal, Cond.code yX7_isGoal cX7_isGoal 1 (some .boolean), Cond.methodLink RX7 74 yX2_placeOf, Cond.instanceMethod yX2_placeOf, Cond.selects RX2 yX2_placeOf yX2_placeOf, Cond.initialized RX2, Cond.code yX2_placeOf cX2_placeOf 4 (some .int)]
def wsX7_put_r2 : List Cond := [Cond.fieldLink RX2 39 "PrefixLeader$Lines" "size" "I", Cond.methodLink RX2 49 yX2_isAhead, Cond.instanceMethod yX2_isAhead, Cond.selects RX2 yX2_isAhead yX2_isAhead, Cond.code yX2_isAhead cX2_isAhead 4 (some .boolean), Cond.fieldLink RX2 21 "PrefixLeader$Lines" "address" "[I", Cond.fieldLink RX2 25 "PrefixLeader$Lines" "bits" "[I", Cond.static yX7_wide, Cond.code yX7_wide cX7_wide 1 (some .long), Cond.constantLong RX7 218 (4294967295), Cond.methodLink RX7 78 yX2_isAt, Cond.instanceMethod yX2_isAt, Cond.selects RX2 yX2_isAt yX2_isAt, Cond.code yX2_isAt cX2_isAt 4 (some .boolean), Cond.methodLink RX7 86 yX2_insert, Cond.instanceMethod yX2_insert, Cond.selects RX2 yX2_insert yX2_insert, Cond.code yX2_insert cX2_insert 6 (some .boolean), Cond.fieldLink RX2 15 "PrefixLeader$Lines" "room" "I", Cond.fieldLink RX2 28 "PrefixLeader$Lines" "goal" "[I", Cond.methodLink RX2 61 yX2_write, Cond.instanceMethod yX2_write, Cond.selects RX2 yX2_write yX2_write, Cond.code yX2_write cX2_write 5 none]
def wsX7_put : List Cond := .code yX7_put cX7_put 7 (some .int) :: ((wsX7_put_r1 ++ wsX7_put_r2) ++ wsX70 ++ wsX20)
def wsX7_drop_r1 : List Cond := [Cond.fieldLink RX7 11 "PrefixLeader" "books" "[LPrefixLeader$Lines;", Cond.methodLink RX7 63 yX7_isBook, Cond.static yX7_isBook, Cond.initialized RX7, Cond.code yX7_isBook cX7_isBook 1 (some .boolean), Cond.methodLink RX7 74 yX2_placeOf, Cond.instanceMethod yX2_placeOf, Cond.selects RX2 yX2_placeOf yX2_placeOf, Cond.initialized RX2, Cond.code yX2_placeOf cX2_placeOf 4 (some .int), Cond.fieldLink RX2 39 "PrefixLeader$Lines" "size" "I", Cond.methodLink RX2 49 yX2_isAhead, Cond.instanceMethod yX2_isAhead, Cond.selects RX2 yX2_isAhead yX2_isAhead, Cond.code yX2_isAhead cX2_isAhead 4 (some .boolean), Cond.fieldLink RX2 21 "PrefixLeader$Lines" "address" "[I", Cond.fieldLink RX2 25 "PrefixLeader$Lines" "bits" "[I", Cond.static yX7_wide, Cond.code yX7_wide cX7_wide 1 (some .long), Cond.constantLong RX7 218 (4294967295), Cond.methodLink RX7 78 yX2_isAt, Cond.instanceMethod yX2_isAt, Cond.selects RX2 yX2_isAt yX2_isAt, Cond.code yX2_isAt cX2_isAt 4 (some .boolean)]
def wsX7_drop_r2 : List Cond := [Cond.methodLink RX7 90 yX2_removeAt, Cond.instanceMethod yX2_removeAt, Cond.selects RX2 yX2_removeAt yX2_removeAt, Cond.code yX2_removeAt cX2_removeAt 3 none, Cond.fieldLink RX2 28 "PrefixLeader$Lines" "goal" "[I", Cond.methodLink RX2 61 yX2_write, Cond.instanceMethod yX2_write, Cond.selects RX2 yX2_write yX2_write, Cond.code yX2_write cX2_write 5 none]
def wsX7_drop : List Cond := .code yX7_drop cX7_drop 6 (some .boolean) :: ((wsX7_drop_r1 ++ wsX7_drop_r2) ++ wsX70 ++ wsX20)
def wsX7_copy : List Cond := .code yX7_copy cX7_copy 3 (some .int) :: ([.fieldLink RX7 11 "PrefixLeader" "books" "[LPrefixLeader$Lines;", .fieldLink RX7 97 "PrefixLeader$Lines" "size" "I", .methodLink RX7 63 yX7_isBook, .static yX7_isBook, .initialized RX7, .code yX7_isBook cX7_isBook 1 (some .boolean), .methodLink RX7 93 yX2_become, .instanceMethod yX2_become, .selects RX2 yX2_become yX2_become, .initialized RX2, .code yX2_become cX2_become 4 none, .fieldLink RX2 39 "PrefixLeader$Lines" "size" "I", .fieldLink RX2 15 "PrefixLeader$Lines" "room" "I", .methodLink RX2 55 Lib.Math.min.name, .static Lib.Math.min.name, .initialized "java/lang/Math", .code Lib.Math.min.name Lib.Math.min.code 2 (some .int), .fieldLink RX2 21 "PrefixLeader$Lines" "address" "[I", .fieldLink RX2 25 "PrefixLeader$Lines" "bits" "[I", .fieldLink RX2 28 "PrefixLeader$Lines" "goal" "[I", .methodLink RX2 61 yX2_write, .instanceMethod yX2_write, .selects RX2 yX2_write yX2_write, .code yX2_write cX2_write 5 none] ++ wsX70 ++ wsX20)
def wsX7_count : List Cond := .code yX7_count cX7_count 2 (some .int) :: ([.fieldLink RX7 11 "PrefixLeader" "books" "[LPrefixLeader$Lines;", .fieldLink RX7 97 "PrefixLeader$Lines" "size" "I", .methodLink RX7 63 yX7_isBook, .static yX7_isBook, .initialized RX7, .code yX7_isBook cX7_isBook 1 (some .boolean)] ++ wsX70 ++ wsX20)
def wsX7_line : List Cond := .code yX7_line cX7_line 4 (some .long) :: ([.fieldLink RX7 11 "PrefixLeader" "books" "[LPrefixLeader$Lines;", .fieldLink RX7 97 "PrefixLeader$Lines" "size" "I", .constantLong RX7 101 (-1), .fieldLink RX7 107 "PrefixLeader$Lines" "bits" "[I", .fieldLink RX7 82 "PrefixLeader$Lines" "goal" "[I", .methodLink RX7 63 yX7_isBook, .static yX7_isBook, .initialized RX7, .code yX7_isBook cX7_isBook 1 (some .boolean), .methodLink RX7 103 yX2_first, .instanceMethod yX2_first, .selects RX2 yX2_first yX2_first, .initialized RX2, .code yX2_first cX2_first 2 (some .long), .fieldLink RX2 21 "PrefixLeader$Lines" "address" "[I", .static yX7_wide, .code yX7_wide cX7_wide 1 (some .long), .constantLong RX7 218 (4294967295)] ++ wsX70 ++ wsX20)
def wsX7_find_r1 : List Cond := [Cond.fieldLink RX7 11 "PrefixLeader" "books" "[LPrefixLeader$Lines;", Cond.fieldLink RX7 97 "PrefixLeader$Lines" "size" "I", Cond.methodLink RX7 63 yX7_isBook, Cond.static yX7_isBook, Cond.initialized RX7, Cond.code yX7_isBook cX7_isBook 1 (some .boolean), Cond.methodLink RX7 110 yX2_goalAmong, Cond.instanceMethod yX2_goalAmong, Cond.selects RX2 yX2_goalAmong yX2_goalAmong, Cond.initialized RX2, Cond.code yX2_goalAmong cX2_goalAmong 4 (some .int), Cond.fieldLink RX2 28 "PrefixLeader$Lines" "goal" "[I", Cond.methodLink RX2 58 yX2_lastHolder, Cond.instanceMethod yX2_lastHolder, Cond.selects RX2 yX2_lastHolder yX2_lastHolder, Cond.code yX2_lastHolder cX2_lastHolder 4 (some .int), Cond.fieldLink RX2 39 "PrefixLeader$Lines" "size" "I", Cond.methodLink RX2 55 Lib.Math.min.name, Cond.static Lib.Math.min.name, Cond.initialized "java/lang/Math", Cond.code Lib.Math.min.name Lib.Math.min.code 2 (some .int), Cond.fieldLink RX2 21 "PrefixLeader$Lines" "address" "[I", Cond.fieldLink RX2 25 "PrefixLeader$Lines" "bits" "[I", Cond.static yX7_begins]
def wsX7_find_r2 : List Cond := [Cond.code yX7_begins cX7_begins 3 (some .boolean), Cond.methodLink RX7 207 yX7_mask, Cond.static yX7_mask, Cond.code yX7_mask cX7_mask 1 (some .int), Cond.methodLink RX7 210 Lib.Math.min.name]
def wsX7_find : List Cond := .code yX7_find cX7_find 3 (some .int) :: ((wsX7_find_r1 ++ wsX7_find_r2) ++ wsX70 ++ wsX20)
def wsX7_longest : List Cond := .code yX7_longest cX7_longest 3 (some .int) :: ([.fieldLink RX7 11 "PrefixLeader" "books" "[LPrefixLeader$Lines;", .fieldLink RX7 97 "PrefixLeader$Lines" "size" "I", .methodLink RX7 63 yX7_isBook, .static yX7_isBook, .initialized RX7, .code yX7_isBook cX7_isBook 1 (some .boolean), .methodLink RX7 113 yX2_lastHolder, .instanceMethod yX2_lastHolder, .selects RX2 yX2_lastHolder yX2_lastHolder, .initialized RX2, .code yX2_lastHolder cX2_lastHolder 4 (some .int), .fieldLink RX2 39 "PrefixLeader$Lines" "size" "I", .methodLink RX2 55 Lib.Math.min.name, .static Lib.Math.min.name, .initialized "java/lang/Math", .code Lib.Math.min.name Lib.Math.min.code 2 (some .int), .fieldLink RX2 21 "PrefixLeader$Lines" "address" "[I", .fieldLink RX2 25 "PrefixLeader$Lines" "bits" "[I", .static yX7_begins, .code yX7_begins cX7_begins 3 (some .boolean), .methodLink RX7 207 yX7_mask, .static yX7_mask, .code yX7_mask cX7_mask 1 (some .int), .methodLink RX7 210 Lib.Math.min.name] ++ wsX70 ++ wsX20)
def wsX7_becomeLeast_r1 : List Cond := [Cond.fieldLink RX7 28 "PrefixLeader" "tree" "LPrefixLeader$Tree;", Cond.fieldLink RX7 22 "PrefixLeader" "fewest" "LPrefixLeader$Lines;", Cond.fieldLink RX7 97 "PrefixLeader$Lines" "size" "I", Cond.methodLink RX7 176 yX5_plantWhole, Cond.instanceMethod yX5_plantWhole, Cond.selects RX5 yX5_plantWhole yX5_plantWhole, Cond.initialized RX5, Cond.code yX5_plantWhole cX5_plantWhole 2 none, Cond.fieldLink RX5 30 "PrefixLeader$Tree" "size" "I", Cond.fieldLink RX5 34 "PrefixLeader$Lines" "size" "I", Cond.methodLink RX5 37 yX5_grow, Cond.instanceMethod yX5_grow, Cond.selects RX5 yX5_grow yX5_grow, Cond.code yX5_grow cX5_grow 11 (some .int), Cond.fieldLink RX5 11 "PrefixLeader$Tree" "address" "[I", Cond.fieldLink RX5 15 "PrefixLeader$Tree" "bits" "[I", Cond.fieldLink RX5 18 "PrefixLeader$Tree" "goal" "[I", Cond.fieldLink RX5 45 "PrefixLeader$Lines" "goal" "[I", Cond.fieldLink RX5 21 "PrefixLeader$Tree" "low" "[I", Cond.fieldLink RX5 24 "PrefixLeader$Tree" "high" "[I", Cond.fieldLink RX5 27 "PrefixLeader$Tree" "sets" "[I", Cond.methodLink RX5 41 yX2_isAt, Cond.instanceMethod yX2_isAt, Cond.selects RX2 yX2_isAt yX2_isAt]
def wsX7_becomeLeast_r2 : List Cond := [Cond.initialized RX2, Cond.code yX2_isAt cX2_isAt 4 (some .boolean), Cond.fieldLink RX2 39 "PrefixLeader$Lines" "size" "I", Cond.fieldLink RX2 21 "PrefixLeader$Lines" "address" "[I", Cond.fieldLink RX2 25 "PrefixLeader$Lines" "bits" "[I", Cond.methodLink RX5 46 yX2_firstHigh, Cond.instanceMethod yX2_firstHigh, Cond.selects RX2 yX2_firstHigh yX2_firstHigh, Cond.code yX2_firstHigh cX2_firstHigh 5 (some .int), Cond.static yX7_bitAt, Cond.initialized RX7, Cond.code yX7_bitAt cX7_bitAt 1 (some .int), Cond.constant RX7 217 (-2147483648), Cond.methodLink RX5 50 yX5_growSide, Cond.instanceMethod yX5_growSide, Cond.selects RX5 yX5_growSide yX5_growSide, Cond.methodLink RX5 54 yX5_setOfSide, Cond.instanceMethod yX5_setOfSide, Cond.selects RX5 yX5_setOfSide yX5_setOfSide, Cond.code yX5_setOfSide cX5_setOfSide 5 (some .int), Cond.methodLink RX5 58 yX5_both, Cond.static yX5_both, Cond.code yX5_both cX5_both 2 (some .int), Cond.code yX5_growSide cX5_growSide 6 (some .int)]
def wsX7_becomeLeast_r3 : List Cond := [Cond.fieldLink RX5 64 "PrefixLeader$Lines" "address" "[I", Cond.methodLink RX5 61 yX2_commonBits, Cond.instanceMethod yX2_commonBits, Cond.selects RX2 yX2_commonBits yX2_commonBits, Cond.code yX2_commonBits cX2_commonBits 3 (some .int), Cond.methodLink RX2 55 Lib.Math.min.name, Cond.static Lib.Math.min.name, Cond.initialized "java/lang/Math", Cond.code Lib.Math.min.name Lib.Math.min.code 2 (some .int), Cond.methodLink RX2 79 yJ6_numberOfLeadingZeros_0f7a4, Cond.static yJ6_numberOfLeadingZeros_0f7a4, Cond.initialized RJ6, Cond.code yJ6_numberOfLeadingZeros_0f7a4 cJ6_numberOfLeadingZeros_0f7a4 2 (some .int), Cond.constant RJ6 264 (65536), Cond.static yX7_mask, Cond.code yX7_mask cX7_mask 1 (some .int), Cond.methodLink RX7 210 Lib.Math.min.name, Cond.methodLink RX7 201 yX5_writeLeast, Cond.instanceMethod yX5_writeLeast, Cond.selects RX5 yX5_writeLeast yX5_writeLeast, Cond.code yX5_writeLeast cX5_writeLeast 2 none, Cond.methodLink RX5 69 yX2_clear, Cond.instanceMethod yX2_clear, Cond.selects RX2 yX2_clear yX2_clear]
def wsX7_becomeLeast_r4 : List Cond := [Cond.code yX2_clear cX2_clear 1 none, Cond.methodLink RX5 72 yX5_writeNode, Cond.instanceMethod yX5_writeNode, Cond.selects RX5 yX5_writeNode yX5_writeNode, Cond.code yX5_writeNode cX5_writeNode 6 none, Cond.methodLink RX5 76 yX5_writeIfNeeded, Cond.static yX5_writeIfNeeded, Cond.code yX5_writeIfNeeded cX5_writeIfNeeded 6 (some .int), Cond.methodLink RX5 91 yJ6_numberOfTrailingZeros_0f7a4, Cond.static yJ6_numberOfTrailingZeros_0f7a4, Cond.code yJ6_numberOfTrailingZeros_0f7a4 cJ6_numberOfTrailingZeros_0f7a4 2 (some .int), Cond.methodLink RX5 96 yX2_append, Cond.instanceMethod yX2_append, Cond.selects RX2 yX2_append yX2_append, Cond.code yX2_append cX2_append 4 none, Cond.fieldLink RX2 15 "PrefixLeader$Lines" "room" "I", Cond.fieldLink RX2 28 "PrefixLeader$Lines" "goal" "[I", Cond.methodLink RX5 80 yX5_writeSide, Cond.instanceMethod yX5_writeSide, Cond.selects RX5 yX5_writeSide yX5_writeSide, Cond.code yX5_writeSide cX5_writeSide 9 none, Cond.methodLink RX5 87 yX5_writeWithTwin, Cond.instanceMethod yX5_writeWithTwin, Cond.selects RX5 yX5_writeWithTwin yX5_writeWithTwin]
def wsX7_becomeLeast_r5 : List Cond := [Cond.code yX5_writeWithTwin cX5_writeWithTwin 10 none, Cond.methodLink RX7 93 yX2_become, Cond.instanceMethod yX2_become, Cond.selects RX2 yX2_become yX2_become, Cond.code yX2_become cX2_become 4 none, Cond.methodLink RX2 61 yX2_write, Cond.instanceMethod yX2_write, Cond.selects RX2 yX2_write yX2_write, Cond.code yX2_write cX2_write 5 none]
def wsX7_becomeLeast : List Cond := .code yX7_becomeLeast cX7_becomeLeast 3 (some .int) :: ((wsX7_becomeLeast_r1 ++ (wsX7_becomeLeast_r2 ++ (wsX7_becomeLeast_r3 ++ (wsX7_becomeLeast_r4 ++ wsX7_becomeLeast_r5)))) ++ wsX70 ++ wsX20 ++ wsX50)
def wsX7_least_r1 : List Cond := [Cond.fieldLink RX7 11 "PrefixLeader" "books" "[LPrefixLeader$Lines;", Cond.methodLink RX7 63 yX7_isBook, Cond.static yX7_isBook, Cond.initialized RX7, Cond.code yX7_isBook cX7_isBook 1 (some .boolean), Cond.methodLink RX7 116 yX7_becomeLeast, Cond.instanceMethod yX7_becomeLeast, Cond.selects RX7 yX7_becomeLeast yX7_becomeLeast, Cond.code yX7_becomeLeast cX7_becomeLeast 3 (some .int), Cond.fieldLink RX7 28 "PrefixLeader" "tree" "LPrefixLeader$Tree;", Cond.fieldLink RX7 22 "PrefixLeader" "fewest" "LPrefixLeader$Lines;", Cond.fieldLink RX7 97 "PrefixLeader$Lines" "size" "I", Cond.methodLink RX7 176 yX5_plantWhole, Cond.instanceMethod yX5_plantWhole, Cond.selects RX5 yX5_plantWhole yX5_plantWhole, Cond.initialized RX5, Cond.code yX5_plantWhole cX5_plantWhole 2 none, Cond.fieldLink RX5 30 "PrefixLeader$Tree" "size" "I", Cond.fieldLink RX5 34 "PrefixLeader$Lines" "size" "I", Cond.methodLink RX5 37 yX5_grow, Cond.instanceMethod yX5_grow, Cond.selects RX5 yX5_grow yX5_grow, Cond.code yX5_grow cX5_grow 11 (some .int), Cond.fieldLink RX5 11 "PrefixLeader$Tree" "address" "[I"]
def wsX7_least_r2 : List Cond := [Cond.fieldLink RX5 15 "PrefixLeader$Tree" "bits" "[I", Cond.fieldLink RX5 18 "PrefixLeader$Tree" "goal" "[I", Cond.fieldLink RX5 45 "PrefixLeader$Lines" "goal" "[I", Cond.fieldLink RX5 21 "PrefixLeader$Tree" "low" "[I", Cond.fieldLink RX5 24 "PrefixLeader$Tree" "high" "[I", Cond.fieldLink RX5 27 "PrefixLeader$Tree" "sets" "[I", Cond.methodLink RX5 41 yX2_isAt, Cond.instanceMethod yX2_isAt, Cond.selects RX2 yX2_isAt yX2_isAt, Cond.initialized RX2, Cond.code yX2_isAt cX2_isAt 4 (some .boolean), Cond.fieldLink RX2 39 "PrefixLeader$Lines" "size" "I", Cond.fieldLink RX2 21 "PrefixLeader$Lines" "address" "[I", Cond.fieldLink RX2 25 "PrefixLeader$Lines" "bits" "[I", Cond.methodLink RX5 46 yX2_firstHigh, Cond.instanceMethod yX2_firstHigh, Cond.selects RX2 yX2_firstHigh yX2_firstHigh, Cond.code yX2_firstHigh cX2_firstHigh 5 (some .int), Cond.static yX7_bitAt, Cond.code yX7_bitAt cX7_bitAt 1 (some .int), Cond.constant RX7 217 (-2147483648), Cond.methodLink RX5 50 yX5_growSide, Cond.instanceMethod yX5_growSide, Cond.selects RX5 yX5_growSide yX5_growSide]
def wsX7_least_r3 : List Cond := [Cond.methodLink RX5 54 yX5_setOfSide, Cond.instanceMethod yX5_setOfSide, Cond.selects RX5 yX5_setOfSide yX5_setOfSide, Cond.code yX5_setOfSide cX5_setOfSide 5 (some .int), Cond.methodLink RX5 58 yX5_both, Cond.static yX5_both, Cond.code yX5_both cX5_both 2 (some .int), Cond.code yX5_growSide cX5_growSide 6 (some .int), Cond.fieldLink RX5 64 "PrefixLeader$Lines" "address" "[I", Cond.methodLink RX5 61 yX2_commonBits, Cond.instanceMethod yX2_commonBits, Cond.selects RX2 yX2_commonBits yX2_commonBits, Cond.code yX2_commonBits cX2_commonBits 3 (some .int), Cond.methodLink RX2 55 Lib.Math.min.name, Cond.static Lib.Math.min.name, Cond.initialized "java/lang/Math", Cond.code Lib.Math.min.name Lib.Math.min.code 2 (some .int), Cond.methodLink RX2 79 yJ6_numberOfLeadingZeros_0f7a4, Cond.static yJ6_numberOfLeadingZeros_0f7a4, Cond.initialized RJ6, Cond.code yJ6_numberOfLeadingZeros_0f7a4 cJ6_numberOfLeadingZeros_0f7a4 2 (some .int), Cond.constant RJ6 264 (65536), Cond.static yX7_mask, Cond.code yX7_mask cX7_mask 1 (some .int)]
def wsX7_least_r4 : List Cond := [Cond.methodLink RX7 210 Lib.Math.min.name, Cond.methodLink RX7 201 yX5_writeLeast, Cond.instanceMethod yX5_writeLeast, Cond.selects RX5 yX5_writeLeast yX5_writeLeast, Cond.code yX5_writeLeast cX5_writeLeast 2 none, Cond.methodLink RX5 69 yX2_clear, Cond.instanceMethod yX2_clear, Cond.selects RX2 yX2_clear yX2_clear, Cond.code yX2_clear cX2_clear 1 none, Cond.methodLink RX5 72 yX5_writeNode, Cond.instanceMethod yX5_writeNode, Cond.selects RX5 yX5_writeNode yX5_writeNode, Cond.code yX5_writeNode cX5_writeNode 6 none, Cond.methodLink RX5 76 yX5_writeIfNeeded, Cond.static yX5_writeIfNeeded, Cond.code yX5_writeIfNeeded cX5_writeIfNeeded 6 (some .int), Cond.methodLink RX5 91 yJ6_numberOfTrailingZeros_0f7a4, Cond.static yJ6_numberOfTrailingZeros_0f7a4, Cond.code yJ6_numberOfTrailingZeros_0f7a4 cJ6_numberOfTrailingZeros_0f7a4 2 (some .int), Cond.methodLink RX5 96 yX2_append, Cond.instanceMethod yX2_append, Cond.selects RX2 yX2_append yX2_append, Cond.code yX2_append cX2_append 4 none, Cond.fieldLink RX2 15 "PrefixLeader$Lines" "room" "I"]
def wsX7_least_r5 : List Cond := [Cond.fieldLink RX2 28 "PrefixLeader$Lines" "goal" "[I", Cond.methodLink RX5 80 yX5_writeSide, Cond.instanceMethod yX5_writeSide, Cond.selects RX5 yX5_writeSide yX5_writeSide, Cond.code yX5_writeSide cX5_writeSide 9 none, Cond.methodLink RX5 87 yX5_writeWithTwin, Cond.instanceMethod yX5_writeWithTwin, Cond.selects RX5 yX5_writeWithTwin yX5_writeWithTwin, Cond.code yX5_writeWithTwin cX5_writeWithTwin 10 none, Cond.methodLink RX7 93 yX2_become, Cond.instanceMethod yX2_become, Cond.selects RX2 yX2_become yX2_become, Cond.code yX2_become cX2_become 4 none, Cond.methodLink RX2 61 yX2_write, Cond.instanceMethod yX2_write, Cond.selects RX2 yX2_write yX2_write, Cond.code yX2_write cX2_write 5 none]
def wsX7_least : List Cond := .code yX7_least cX7_least 3 (some .int) :: ((wsX7_least_r1 ++ (wsX7_least_r2 ++ (wsX7_least_r3 ++ (wsX7_least_r4 ++ wsX7_least_r5)))) ++ wsX70 ++ wsX20 ++ wsX50)
def wsX7_set_r1 : List Cond := [Cond.fieldLink RX7 11 "PrefixLeader" "books" "[LPrefixLeader$Lines;", Cond.fieldLink RX7 28 "PrefixLeader" "tree" "LPrefixLeader$Tree;", Cond.methodLink RX7 63 yX7_isBook, Cond.static yX7_isBook, Cond.initialized RX7, Cond.code yX7_isBook cX7_isBook 1 (some .boolean), Cond.methodLink RX7 67 yX7_isBeginning, Cond.static yX7_isBeginning, Cond.code yX7_isBeginning cX7_isBeginning 2 (some .boolean), Cond.methodLink RX7 207 yX7_mask, Cond.static yX7_mask, Cond.code yX7_mask cX7_mask 1 (some .int), Cond.methodLink RX7 210 Lib.Math.min.name, Cond.static Lib.Math.min.name, Cond.initialized "java/lang/Math", Cond.code Lib.Math.min.name Lib.Math.min.code 2 (some .int), Cond.methodLink RX7 74 yX2_placeOf, Cond.instanceMethod yX2_placeOf, Cond.selects RX2 yX2_placeOf yX2_placeOf, Cond.initialized RX2, Cond.code yX2_placeOf cX2_placeOf 4 (some .int), Cond.fieldLink RX2 39 "PrefixLeader$Lines" "size" "I", Cond.methodLink RX2 49 yX2_isAhead, Cond.instanceMethod yX2_isAhead]
def wsX7_set_r2 : List Cond := [Cond.selects RX2 yX2_isAhead yX2_isAhead, Cond.code yX2_isAhead cX2_isAhead 4 (some .boolean), Cond.fieldLink RX2 21 "PrefixLeader$Lines" "address" "[I", Cond.fieldLink RX2 25 "PrefixLeader$Lines" "bits" "[I", Cond.static yX7_wide, Cond.code yX7_wide cX7_wide 1 (some .long), Cond.constantLong RX7 218 (4294967295), Cond.methodLink RX7 120 yX2_endOf, Cond.instanceMethod yX2_endOf, Cond.selects RX2 yX2_endOf yX2_endOf, Cond.code yX2_endOf cX2_endOf 5 (some .int), Cond.methodLink RX2 9 Lib.Math.max.name, Cond.static Lib.Math.max.name, Cond.code Lib.Math.max.name Lib.Math.max.code 2 (some .int), Cond.static yX7_begins, Cond.code yX7_begins cX7_begins 3 (some .boolean), Cond.methodLink RX7 110 yX2_goalAmong, Cond.instanceMethod yX2_goalAmong, Cond.selects RX2 yX2_goalAmong yX2_goalAmong, Cond.code yX2_goalAmong cX2_goalAmong 4 (some .int), Cond.fieldLink RX2 28 "PrefixLeader$Lines" "goal" "[I", Cond.methodLink RX2 58 yX2_lastHolder, Cond.instanceMethod yX2_lastHolder, Cond.selects RX2 yX2_lastHolder yX2_lastHolder]
def wsX7_set_r3 : List Cond := [Cond.code yX2_lastHolder cX2_lastHolder 4 (some .int), Cond.methodLink RX2 55 Lib.Math.min.name, Cond.methodLink RX7 124 yX5_plant, Cond.instanceMethod yX5_plant, Cond.selects RX5 yX5_plant yX5_plant, Cond.initialized RX5, Cond.code yX5_plant cX5_plant 7 none, Cond.fieldLink RX5 30 "PrefixLeader$Tree" "size" "I", Cond.methodLink RX5 37 yX5_grow, Cond.instanceMethod yX5_grow, Cond.selects RX5 yX5_grow yX5_grow, Cond.code yX5_grow cX5_grow 11 (some .int), Cond.fieldLink RX5 11 "PrefixLeader$Tree" "address" "[I", Cond.fieldLink RX5 15 "PrefixLeader$Tree" "bits" "[I", Cond.fieldLink RX5 18 "PrefixLeader$Tree" "goal" "[I", Cond.fieldLink RX5 45 "PrefixLeader$Lines" "goal" "[I", Cond.fieldLink RX5 21 "PrefixLeader$Tree" "low" "[I", Cond.fieldLink RX5 24 "PrefixLeader$Tree" "high" "[I", Cond.fieldLink RX5 27 "PrefixLeader$Tree" "sets" "[I", Cond.methodLink RX5 41 yX2_isAt, Cond.instanceMethod yX2_isAt, Cond.selects RX2 yX2_isAt yX2_isAt, Cond.code yX2_isAt cX2_isAt 4 (some .boolean), Cond.methodLink RX5 46 yX2_firstHigh]
def wsX7_set_r4 : List Cond := [Cond.instanceMethod yX2_firstHigh, Cond.selects RX2 yX2_firstHigh yX2_firstHigh, Cond.code yX2_firstHigh cX2_firstHigh 5 (some .int), Cond.static yX7_bitAt, Cond.code yX7_bitAt cX7_bitAt 1 (some .int), Cond.constant RX7 217 (-2147483648), Cond.methodLink RX5 50 yX5_growSide, Cond.instanceMethod yX5_growSide, Cond.selects RX5 yX5_growSide yX5_growSide, Cond.methodLink RX5 54 yX5_setOfSide, Cond.instanceMethod yX5_setOfSide, Cond.selects RX5 yX5_setOfSide yX5_setOfSide, Cond.code yX5_setOfSide cX5_setOfSide 5 (some .int), Cond.methodLink RX5 58 yX5_both, Cond.static yX5_both, Cond.code yX5_both cX5_both 2 (some .int), Cond.code yX5_growSide cX5_growSide 6 (some .int), Cond.fieldLink RX5 34 "PrefixLeader$Lines" "size" "I", Cond.fieldLink RX5 64 "PrefixLeader$Lines" "address" "[I", Cond.methodLink RX5 61 yX2_commonBits, Cond.instanceMethod yX2_commonBits, Cond.selects RX2 yX2_commonBits yX2_commonBits, Cond.code yX2_commonBits cX2_commonBits 3 (some .int), Cond.methodLink RX2 79 yJ6_numberOfLeadingZeros_0f7a4]
def wsX7_set_r5 : List Cond := [Cond.static yJ6_numberOfLeadingZeros_0f7a4, Cond.initialized RJ6, Cond.code yJ6_numberOfLeadingZeros_0f7a4 cJ6_numberOfLeadingZeros_0f7a4 2 (some .int), Cond.constant RJ6 264 (65536), Cond.methodLink RX7 128 yX5_setOfTop, Cond.instanceMethod yX5_setOfTop, Cond.selects RX5 yX5_setOfTop yX5_setOfTop, Cond.code yX5_setOfTop cX5_setOfTop 1 (some .int)]
def wsX7_set : List Cond := .code yX7_set cX7_set 7 (some .int) :: ((wsX7_set_r1 ++ (wsX7_set_r2 ++ (wsX7_set_r3 ++ (wsX7_set_r4 ++ wsX7_set_r5)))) ++ wsX70 ++ wsX20 ++ wsX50)
def wsX7_spans_r1 : List Cond := [Cond.fieldLink RX7 35 "PrefixLeader" "spansOfOne" "LPrefixLeader$Spans;", Cond.fieldLink RX7 11 "PrefixLeader" "books" "[LPrefixLeader$Lines;", Cond.methodLink RX7 63 yX7_isBook, Cond.static yX7_isBook, Cond.initialized RX7, Cond.code yX7_isBook cX7_isBook 1 (some .boolean), Cond.methodLink RX7 132 yX3_measure, Cond.instanceMethod yX3_measure, Cond.selects RX3 yX3_measure yX3_measure, Cond.initialized RX3, Cond.code yX3_measure cX3_measure 3 none, Cond.fieldLink RX3 22 "PrefixLeader$Spans" "size" "I", Cond.fieldLink RX3 26 "PrefixLeader$Spans" "reached" "J", Cond.fieldLink RX3 30 "PrefixLeader$Spans" "opened" "I", Cond.fieldLink RX3 33 "PrefixLeader$Lines" "size" "I", Cond.fieldLink RX3 19 "PrefixLeader$Spans" "open" "[I", Cond.constantLong RX3 43 (4294967296), Cond.methodLink RX3 36 yX2_first, Cond.instanceMethod yX2_first, Cond.selects RX2 yX2_first yX2_first, Cond.initialized RX2, Cond.code yX2_first cX2_first 2 (some .long), Cond.fieldLink RX2 21 "PrefixLeader$Lines" "address" "[I", Cond.static yX7_wide]
def wsX7_spans_r2 : List Cond := [Cond.code yX7_wide cX7_wide 1 (some .long), Cond.constantLong RX7 218 (4294967295), Cond.methodLink RX3 39 yX3_reachStart, Cond.instanceMethod yX3_reachStart, Cond.selects RX3 yX3_reachStart yX3_reachStart, Cond.code yX3_reachStart cX3_reachStart 4 none, Cond.fieldLink RX3 48 "PrefixLeader$Lines" "goal" "[I", Cond.methodLink RX3 45 yX2_last, Cond.instanceMethod yX2_last, Cond.selects RX2 yX2_last yX2_last, Cond.code yX2_last cX2_last 2 (some .long), Cond.fieldLink RX2 25 "PrefixLeader$Lines" "bits" "[I", Cond.static yX7_mask, Cond.code yX7_mask cX7_mask 1 (some .int), Cond.methodLink RX7 210 Lib.Math.min.name, Cond.static Lib.Math.min.name, Cond.initialized "java/lang/Math", Cond.code Lib.Math.min.name Lib.Math.min.code 2 (some .int), Cond.methodLink RX3 49 yX3_reach, Cond.instanceMethod yX3_reach, Cond.selects RX3 yX3_reach yX3_reach, Cond.code yX3_reach cX3_reach 5 none, Cond.fieldLink RX3 15 "PrefixLeader$Spans" "goal" "[I", Cond.fieldLink RX3 11 "PrefixLeader$Spans" "first" "[J"]
def wsX7_spans : List Cond := .code yX7_spans cX7_spans 2 (some .int) :: ((wsX7_spans_r1 ++ wsX7_spans_r2) ++ wsX70 ++ wsX30 ++ wsX20)
def wsX7_span_r1 : List Cond := [Cond.constantLong RX7 101 (-1), Cond.fieldLink RX7 35 "PrefixLeader" "spansOfOne" "LPrefixLeader$Spans;", Cond.fieldLink RX7 11 "PrefixLeader" "books" "[LPrefixLeader$Lines;", Cond.methodLink RX7 63 yX7_isBook, Cond.static yX7_isBook, Cond.initialized RX7, Cond.code yX7_isBook cX7_isBook 1 (some .boolean), Cond.methodLink RX7 132 yX3_measure, Cond.instanceMethod yX3_measure, Cond.selects RX3 yX3_measure yX3_measure, Cond.initialized RX3, Cond.code yX3_measure cX3_measure 3 none, Cond.fieldLink RX3 22 "PrefixLeader$Spans" "size" "I", Cond.fieldLink RX3 26 "PrefixLeader$Spans" "reached" "J", Cond.fieldLink RX3 30 "PrefixLeader$Spans" "opened" "I", Cond.fieldLink RX3 33 "PrefixLeader$Lines" "size" "I", Cond.fieldLink RX3 19 "PrefixLeader$Spans" "open" "[I", Cond.constantLong RX3 43 (4294967296), Cond.methodLink RX3 36 yX2_first, Cond.instanceMethod yX2_first, Cond.selects RX2 yX2_first yX2_first, Cond.initialized RX2, Cond.code yX2_first cX2_first 2 (some .long), Cond.fieldLink RX2 21 "PrefixLeader$Lines" "address" "[I"]
def wsX7_span_r2 : List Cond := [Cond.static yX7_wide, Cond.code yX7_wide cX7_wide 1 (some .long), Cond.constantLong RX7 218 (4294967295), Cond.methodLink RX3 39 yX3_reachStart, Cond.instanceMethod yX3_reachStart, Cond.selects RX3 yX3_reachStart yX3_reachStart, Cond.code yX3_reachStart cX3_reachStart 4 none, Cond.fieldLink RX3 48 "PrefixLeader$Lines" "goal" "[I", Cond.methodLink RX3 45 yX2_last, Cond.instanceMethod yX2_last, Cond.selects RX2 yX2_last yX2_last, Cond.code yX2_last cX2_last 2 (some .long), Cond.fieldLink RX2 25 "PrefixLeader$Lines" "bits" "[I", Cond.static yX7_mask, Cond.code yX7_mask cX7_mask 1 (some .int), Cond.methodLink RX7 210 Lib.Math.min.name, Cond.static Lib.Math.min.name, Cond.initialized "java/lang/Math", Cond.code Lib.Math.min.name Lib.Math.min.code 2 (some .int), Cond.methodLink RX3 49 yX3_reach, Cond.instanceMethod yX3_reach, Cond.selects RX3 yX3_reach yX3_reach, Cond.code yX3_reach cX3_reach 5 none, Cond.fieldLink RX3 15 "PrefixLeader$Spans" "goal" "[I"]
def wsX7_span_r3 : List Cond := [Cond.fieldLink RX3 11 "PrefixLeader$Spans" "first" "[J", Cond.methodLink RX7 136 yX3_tell, Cond.instanceMethod yX3_tell, Cond.selects RX3 yX3_tell yX3_tell, Cond.code yX3_tell cX3_tell 3 (some .long), Cond.constantLong RX3 55 (-1), Cond.methodLink RX3 57 yX3_last, Cond.instanceMethod yX3_last, Cond.selects RX3 yX3_last yX3_last, Cond.code yX3_last cX3_last 2 (some .long), Cond.constantLong RX3 53 (4294967295)]
def wsX7_span : List Cond := .code yX7_span cX7_span 4 (some .long) :: ((wsX7_span_r1 ++ (wsX7_span_r2 ++ wsX7_span_r3)) ++ wsX70 ++ wsX30 ++ wsX20)
def wsX7_share_r1 : List Cond := [Cond.constantLong RX7 101 (-1), Cond.fieldLink RX7 35 "PrefixLeader" "spansOfOne" "LPrefixLeader$Spans;", Cond.fieldLink RX7 11 "PrefixLeader" "books" "[LPrefixLeader$Lines;", Cond.methodLink RX7 63 yX7_isBook, Cond.static yX7_isBook, Cond.initialized RX7, Cond.code yX7_isBook cX7_isBook 1 (some .boolean), Cond.methodLink RX7 71 yX7_isGoal, Cond.static yX7_isGoal, Cond.code yX7_isGoal cX7_isGoal 1 (some .boolean), Cond.methodLink RX7 132 yX3_measure, Cond.instanceMethod yX3_measure, Cond.selects RX3 yX3_measure yX3_measure, Cond.initialized RX3, Cond.code yX3_measure cX3_measure 3 none, Cond.fieldLink RX3 22 "PrefixLeader$Spans" "size" "I", Cond.fieldLink RX3 26 "PrefixLeader$Spans" "reached" "J", Cond.fieldLink RX3 30 "PrefixLeader$Spans" "opened" "I", Cond.fieldLink RX3 33 "PrefixLeader$Lines" "size" "I", Cond.fieldLink RX3 19 "PrefixLeader$Spans" "open" "[I", Cond.constantLong RX3 43 (4294967296), Cond.methodLink RX3 36 yX2_first, Cond.instanceMethod yX2_first, Cond.selects RX2 yX2_first yX2_first]
def wsX7_share_r2 : List Cond := [Cond.initialized RX2, Cond.code yX2_first cX2_first 2 (some .long), Cond.fieldLink RX2 21 "PrefixLeader$Lines" "address" "[I", Cond.static yX7_wide, Cond.code yX7_wide cX7_wide 1 (some .long), Cond.constantLong RX7 218 (4294967295), Cond.methodLink RX3 39 yX3_reachStart, Cond.instanceMethod yX3_reachStart, Cond.selects RX3 yX3_reachStart yX3_reachStart, Cond.code yX3_reachStart cX3_reachStart 4 none, Cond.fieldLink RX3 48 "PrefixLeader$Lines" "goal" "[I", Cond.methodLink RX3 45 yX2_last, Cond.instanceMethod yX2_last, Cond.selects RX2 yX2_last yX2_last, Cond.code yX2_last cX2_last 2 (some .long), Cond.fieldLink RX2 25 "PrefixLeader$Lines" "bits" "[I", Cond.static yX7_mask, Cond.code yX7_mask cX7_mask 1 (some .int), Cond.methodLink RX7 210 Lib.Math.min.name, Cond.static Lib.Math.min.name, Cond.initialized "java/lang/Math", Cond.code Lib.Math.min.name Lib.Math.min.code 2 (some .int), Cond.methodLink RX3 49 yX3_reach, Cond.instanceMethod yX3_reach]
def wsX7_share_r3 : List Cond := [Cond.selects RX3 yX3_reach yX3_reach, Cond.code yX3_reach cX3_reach 5 none, Cond.fieldLink RX3 15 "PrefixLeader$Spans" "goal" "[I", Cond.fieldLink RX3 11 "PrefixLeader$Spans" "first" "[J", Cond.methodLink RX7 140 yX3_addressesTo, Cond.instanceMethod yX3_addressesTo, Cond.selects RX3 yX3_addressesTo yX3_addressesTo, Cond.code yX3_addressesTo cX3_addressesTo 5 (some .long), Cond.methodLink RX3 57 yX3_last, Cond.instanceMethod yX3_last, Cond.selects RX3 yX3_last yX3_last, Cond.code yX3_last cX3_last 2 (some .long), Cond.constantLong RX3 53 (4294967295)]
def wsX7_share : List Cond := .code yX7_share cX7_share 3 (some .long) :: ((wsX7_share_r1 ++ (wsX7_share_r2 ++ wsX7_share_r3)) ++ wsX70 ++ wsX30 ++ wsX20)
def wsX7_measureDifference_r1 : List Cond := [Cond.fieldLink RX7 35 "PrefixLeader" "spansOfOne" "LPrefixLeader$Spans;", Cond.fieldLink RX7 11 "PrefixLeader" "books" "[LPrefixLeader$Lines;", Cond.fieldLink RX7 39 "PrefixLeader" "spansOfOther" "LPrefixLeader$Spans;", Cond.fieldLink RX7 45 "PrefixLeader" "difference" "LPrefixLeader$Difference;", Cond.methodLink RX7 132 yX3_measure, Cond.instanceMethod yX3_measure, Cond.selects RX3 yX3_measure yX3_measure, Cond.initialized RX3, Cond.code yX3_measure cX3_measure 3 none, Cond.fieldLink RX3 22 "PrefixLeader$Spans" "size" "I", Cond.fieldLink RX3 26 "PrefixLeader$Spans" "reached" "J", Cond.fieldLink RX3 30 "PrefixLeader$Spans" "opened" "I", Cond.fieldLink RX3 33 "PrefixLeader$Lines" "size" "I", Cond.fieldLink RX3 19 "PrefixLeader$Spans" "open" "[I", Cond.constantLong RX3 43 (4294967296), Cond.methodLink RX3 36 yX2_first, Cond.instanceMethod yX2_first, Cond.selects RX2 yX2_first yX2_first, Cond.initialized RX2, Cond.code yX2_first cX2_first 2 (some .long), Cond.fieldLink RX2 21 "PrefixLeader$Lines" "address" "[I", Cond.static yX7_wide, Cond.initialized RX7, Cond.code yX7_wide cX7_wide 1 (some .long)]
def wsX7_measureDifference_r2 : List Cond := [Cond.constantLong RX7 218 (4294967295), Cond.methodLink RX3 39 yX3_reachStart, Cond.instanceMethod yX3_reachStart, Cond.selects RX3 yX3_reachStart yX3_reachStart, Cond.code yX3_reachStart cX3_reachStart 4 none, Cond.fieldLink RX3 48 "PrefixLeader$Lines" "goal" "[I", Cond.methodLink RX3 45 yX2_last, Cond.instanceMethod yX2_last, Cond.selects RX2 yX2_last yX2_last, Cond.code yX2_last cX2_last 2 (some .long), Cond.fieldLink RX2 25 "PrefixLeader$Lines" "bits" "[I", Cond.static yX7_mask, Cond.code yX7_mask cX7_mask 1 (some .int), Cond.methodLink RX7 210 Lib.Math.min.name, Cond.static Lib.Math.min.name, Cond.initialized "java/lang/Math", Cond.code Lib.Math.min.name Lib.Math.min.code 2 (some .int), Cond.methodLink RX3 49 yX3_reach, Cond.instanceMethod yX3_reach, Cond.selects RX3 yX3_reach yX3_reach, Cond.code yX3_reach cX3_reach 5 none, Cond.fieldLink RX3 15 "PrefixLeader$Spans" "goal" "[I", Cond.fieldLink RX3 11 "PrefixLeader$Spans" "first" "[J", Cond.methodLink RX7 204 yX1_measure]
def wsX7_measureDifference_r3 : List Cond := [Cond.instanceMethod yX1_measure, Cond.selects RX1 yX1_measure yX1_measure, Cond.initialized RX1, Cond.code yX1_measure cX1_measure 12 none, Cond.constantLong RX1 11 (-1), Cond.fieldLink RX1 13 "PrefixLeader$Difference" "start" "J", Cond.fieldLink RX1 19 "PrefixLeader$Difference" "amount" "J", Cond.methodLink RX1 30 Lib.MathLoose.min_long.x, Cond.static Lib.MathLoose.min_long.x, Cond.code Lib.MathLoose.min_long.x Lib.MathLoose.min_long.code 4 (some .long), Cond.methodLink RX1 26 yX3_last, Cond.instanceMethod yX3_last, Cond.selects RX3 yX3_last yX3_last, Cond.code yX3_last cX3_last 2 (some .long), Cond.constantLong RX3 53 (4294967295)]
def wsX7_measureDifference : List Cond := .code yX7_measureDifference cX7_measureDifference 3 none :: ((wsX7_measureDifference_r1 ++ (wsX7_measureDifference_r2 ++ wsX7_measureDifference_r3)) ++ wsX70 ++ wsX30 ++ wsX20 ++ wsX10)
def wsX7_same_r1 : List Cond := [Cond.fieldLink RX7 45 "PrefixLeader" "difference" "LPrefixLeader$Difference;", Cond.methodLink RX7 63 yX7_isBook, Cond.static yX7_isBook, Cond.initialized RX7, Cond.code yX7_isBook cX7_isBook 1 (some .boolean), Cond.methodLink RX7 143 yX7_measureDifference, Cond.instanceMethod yX7_measureDifference, Cond.selects RX7 yX7_measureDifference yX7_measureDifference, Cond.code yX7_measureDifference cX7_measureDifference 3 none, Cond.fieldLink RX7 35 "PrefixLeader" "spansOfOne" "LPrefixLeader$Spans;", Cond.fieldLink RX7 11 "PrefixLeader" "books" "[LPrefixLeader$Lines;", Cond.fieldLink RX7 39 "PrefixLeader" "spansOfOther" "LPrefixLeader$Spans;", Cond.methodLink RX7 132 yX3_measure, Cond.instanceMethod yX3_measure, Cond.selects RX3 yX3_measure yX3_measure, Cond.initialized RX3, Cond.code yX3_measure cX3_measure 3 none, Cond.fieldLink RX3 22 "PrefixLeader$Spans" "size" "I", Cond.fieldLink RX3 26 "PrefixLeader$Spans" "reached" "J", Cond.fieldLink RX3 30 "PrefixLeader$Spans" "opened" "I", Cond.fieldLink RX3 33 "PrefixLeader$Lines" "size" "I", Cond.fieldLink RX3 19 "PrefixLeader$Spans" "open" "[I", Cond.constantLong RX3 43 (4294967296), Cond.methodLink RX3 36 yX2_first]
def wsX7_same_r2 : List Cond := [Cond.instanceMethod yX2_first, Cond.selects RX2 yX2_first yX2_first, Cond.initialized RX2, Cond.code yX2_first cX2_first 2 (some .long), Cond.fieldLink RX2 21 "PrefixLeader$Lines" "address" "[I", Cond.static yX7_wide, Cond.code yX7_wide cX7_wide 1 (some .long), Cond.constantLong RX7 218 (4294967295), Cond.methodLink RX3 39 yX3_reachStart, Cond.instanceMethod yX3_reachStart, Cond.selects RX3 yX3_reachStart yX3_reachStart, Cond.code yX3_reachStart cX3_reachStart 4 none, Cond.fieldLink RX3 48 "PrefixLeader$Lines" "goal" "[I", Cond.methodLink RX3 45 yX2_last, Cond.instanceMethod yX2_last, Cond.selects RX2 yX2_last yX2_last, Cond.code yX2_last cX2_last 2 (some .long), Cond.fieldLink RX2 25 "PrefixLeader$Lines" "bits" "[I", Cond.static yX7_mask, Cond.code yX7_mask cX7_mask 1 (some .int), Cond.methodLink RX7 210 Lib.Math.min.name, Cond.static Lib.Math.min.name, Cond.initialized "java/lang/Math", Cond.code Lib.Math.min.name Lib.Math.min.code 2 (some .int)]
def wsX7_same_r3 : List Cond := [Cond.methodLink RX3 49 yX3_reach, Cond.instanceMethod yX3_reach, Cond.selects RX3 yX3_reach yX3_reach, Cond.code yX3_reach cX3_reach 5 none, Cond.fieldLink RX3 15 "PrefixLeader$Spans" "goal" "[I", Cond.fieldLink RX3 11 "PrefixLeader$Spans" "first" "[J", Cond.methodLink RX7 204 yX1_measure, Cond.instanceMethod yX1_measure, Cond.selects RX1 yX1_measure yX1_measure, Cond.initialized RX1, Cond.code yX1_measure cX1_measure 12 none, Cond.constantLong RX1 11 (-1), Cond.fieldLink RX1 13 "PrefixLeader$Difference" "start" "J", Cond.fieldLink RX1 19 "PrefixLeader$Difference" "amount" "J", Cond.methodLink RX1 30 Lib.MathLoose.min_long.x, Cond.static Lib.MathLoose.min_long.x, Cond.code Lib.MathLoose.min_long.x Lib.MathLoose.min_long.code 4 (some .long), Cond.methodLink RX1 26 yX3_last, Cond.instanceMethod yX3_last, Cond.selects RX3 yX3_last yX3_last, Cond.code yX3_last cX3_last 2 (some .long), Cond.constantLong RX3 53 (4294967295)]
def wsX7_same : List Cond := .code yX7_same cX7_same 3 (some .int) :: ((wsX7_same_r1 ++ (wsX7_same_r2 ++ wsX7_same_r3)) ++ wsX70 ++ wsX10 ++ wsX30 ++ wsX20)
def wsX7_differ_r1 : List Cond := [Cond.constantLong RX7 101 (-1), Cond.fieldLink RX7 45 "PrefixLeader" "difference" "LPrefixLeader$Difference;", Cond.methodLink RX7 63 yX7_isBook, Cond.static yX7_isBook, Cond.initialized RX7, Cond.code yX7_isBook cX7_isBook 1 (some .boolean), Cond.methodLink RX7 143 yX7_measureDifference, Cond.instanceMethod yX7_measureDifference, Cond.selects RX7 yX7_measureDifference yX7_measureDifference, Cond.code yX7_measureDifference cX7_measureDifference 3 none, Cond.fieldLink RX7 35 "PrefixLeader" "spansOfOne" "LPrefixLeader$Spans;", Cond.fieldLink RX7 11 "PrefixLeader" "books" "[LPrefixLeader$Lines;", Cond.fieldLink RX7 39 "PrefixLeader" "spansOfOther" "LPrefixLeader$Spans;", Cond.methodLink RX7 132 yX3_measure, Cond.instanceMethod yX3_measure, Cond.selects RX3 yX3_measure yX3_measure, Cond.initialized RX3, Cond.code yX3_measure cX3_measure 3 none, Cond.fieldLink RX3 22 "PrefixLeader$Spans" "size" "I", Cond.fieldLink RX3 26 "PrefixLeader$Spans" "reached" "J", Cond.fieldLink RX3 30 "PrefixLeader$Spans" "opened" "I", Cond.fieldLink RX3 33 "PrefixLeader$Lines" "size" "I", Cond.fieldLink RX3 19 "PrefixLeader$Spans" "open" "[I", Cond.constantLong RX3 43 (4294967296)]
def wsX7_differ_r2 : List Cond := [Cond.methodLink RX3 36 yX2_first, Cond.instanceMethod yX2_first, Cond.selects RX2 yX2_first yX2_first, Cond.initialized RX2, Cond.code yX2_first cX2_first 2 (some .long), Cond.fieldLink RX2 21 "PrefixLeader$Lines" "address" "[I", Cond.static yX7_wide, Cond.code yX7_wide cX7_wide 1 (some .long), Cond.constantLong RX7 218 (4294967295), Cond.methodLink RX3 39 yX3_reachStart, Cond.instanceMethod yX3_reachStart, Cond.selects RX3 yX3_reachStart yX3_reachStart, Cond.code yX3_reachStart cX3_reachStart 4 none, Cond.fieldLink RX3 48 "PrefixLeader$Lines" "goal" "[I", Cond.methodLink RX3 45 yX2_last, Cond.instanceMethod yX2_last, Cond.selects RX2 yX2_last yX2_last, Cond.code yX2_last cX2_last 2 (some .long), Cond.fieldLink RX2 25 "PrefixLeader$Lines" "bits" "[I", Cond.static yX7_mask, Cond.code yX7_mask cX7_mask 1 (some .int), Cond.methodLink RX7 210 Lib.Math.min.name, Cond.static Lib.Math.min.name, Cond.initialized "java/lang/Math"]
def wsX7_differ_r3 : List Cond := [Cond.code Lib.Math.min.name Lib.Math.min.code 2 (some .int), Cond.methodLink RX3 49 yX3_reach, Cond.instanceMethod yX3_reach, Cond.selects RX3 yX3_reach yX3_reach, Cond.code yX3_reach cX3_reach 5 none, Cond.fieldLink RX3 15 "PrefixLeader$Spans" "goal" "[I", Cond.fieldLink RX3 11 "PrefixLeader$Spans" "first" "[J", Cond.methodLink RX7 204 yX1_measure, Cond.instanceMethod yX1_measure, Cond.selects RX1 yX1_measure yX1_measure, Cond.initialized RX1, Cond.code yX1_measure cX1_measure 12 none, Cond.constantLong RX1 11 (-1), Cond.fieldLink RX1 13 "PrefixLeader$Difference" "start" "J", Cond.fieldLink RX1 19 "PrefixLeader$Difference" "amount" "J", Cond.methodLink RX1 30 Lib.MathLoose.min_long.x, Cond.static Lib.MathLoose.min_long.x, Cond.code Lib.MathLoose.min_long.x Lib.MathLoose.min_long.code 4 (some .long), Cond.methodLink RX1 26 yX3_last, Cond.instanceMethod yX3_last, Cond.selects RX3 yX3_last yX3_last, Cond.code yX3_last cX3_last 2 (some .long), Cond.constantLong RX3 53 (4294967295)]
def wsX7_differ : List Cond := .code yX7_differ cX7_differ 4 (some .long) :: ((wsX7_differ_r1 ++ (wsX7_differ_r2 ++ wsX7_differ_r3)) ++ wsX70 ++ wsX10 ++ wsX30 ++ wsX20)
def wsX7_combine_r1 : List Cond := [Cond.fieldLink RX7 18 "PrefixLeader" "together" "LPrefixLeader$Lines;", Cond.fieldLink RX7 11 "PrefixLeader" "books" "[LPrefixLeader$Lines;", Cond.methodLink RX7 63 yX7_isBook, Cond.static yX7_isBook, Cond.initialized RX7, Cond.code yX7_isBook cX7_isBook 1 (some .boolean), Cond.methodLink RX7 154 yX2_merge, Cond.instanceMethod yX2_merge, Cond.selects RX2 yX2_merge yX2_merge, Cond.initialized RX2, Cond.code yX2_merge cX2_merge 10 none, Cond.fieldLink RX2 39 "PrefixLeader$Lines" "size" "I", Cond.fieldLink RX2 21 "PrefixLeader$Lines" "address" "[I", Cond.fieldLink RX2 25 "PrefixLeader$Lines" "bits" "[I", Cond.methodLink RX2 65 yX2_clear, Cond.instanceMethod yX2_clear, Cond.selects RX2 yX2_clear yX2_clear, Cond.code yX2_clear cX2_clear 1 none, Cond.methodLink RX2 49 yX2_isAhead, Cond.instanceMethod yX2_isAhead, Cond.selects RX2 yX2_isAhead yX2_isAhead, Cond.code yX2_isAhead cX2_isAhead 4 (some .boolean), Cond.static yX7_wide, Cond.code yX7_wide cX7_wide 1 (some .long)]
def wsX7_combine_r2 : List Cond := [Cond.constantLong RX7 218 (4294967295), Cond.methodLink RX2 45 yX2_isAt, Cond.instanceMethod yX2_isAt, Cond.selects RX2 yX2_isAt yX2_isAt, Cond.code yX2_isAt cX2_isAt 4 (some .boolean), Cond.methodLink RX2 68 yX2_goalAmong, Cond.instanceMethod yX2_goalAmong, Cond.selects RX2 yX2_goalAmong yX2_goalAmong, Cond.code yX2_goalAmong cX2_goalAmong 4 (some .int), Cond.fieldLink RX2 28 "PrefixLeader$Lines" "goal" "[I", Cond.methodLink RX2 58 yX2_lastHolder, Cond.instanceMethod yX2_lastHolder, Cond.selects RX2 yX2_lastHolder yX2_lastHolder, Cond.code yX2_lastHolder cX2_lastHolder 4 (some .int), Cond.methodLink RX2 55 Lib.Math.min.name, Cond.static Lib.Math.min.name, Cond.initialized "java/lang/Math", Cond.code Lib.Math.min.name Lib.Math.min.code 2 (some .int), Cond.static yX7_begins, Cond.code yX7_begins cX7_begins 3 (some .boolean), Cond.methodLink RX7 207 yX7_mask, Cond.static yX7_mask, Cond.code yX7_mask cX7_mask 1 (some .int), Cond.methodLink RX7 210 Lib.Math.min.name]
def wsX7_combine_r3 : List Cond := [Cond.methodLink RX2 71 yX2_mixed, Cond.static yX2_mixed, Cond.code yX2_mixed cX2_mixed 3 (some .int), Cond.methodLink RX2 75 yX2_append, Cond.instanceMethod yX2_append, Cond.selects RX2 yX2_append yX2_append, Cond.code yX2_append cX2_append 4 none, Cond.fieldLink RX2 15 "PrefixLeader$Lines" "room" "I", Cond.methodLink RX7 116 yX7_becomeLeast, Cond.instanceMethod yX7_becomeLeast, Cond.selects RX7 yX7_becomeLeast yX7_becomeLeast, Cond.code yX7_becomeLeast cX7_becomeLeast 3 (some .int), Cond.fieldLink RX7 28 "PrefixLeader" "tree" "LPrefixLeader$Tree;", Cond.fieldLink RX7 22 "PrefixLeader" "fewest" "LPrefixLeader$Lines;", Cond.fieldLink RX7 97 "PrefixLeader$Lines" "size" "I", Cond.methodLink RX7 176 yX5_plantWhole, Cond.instanceMethod yX5_plantWhole, Cond.selects RX5 yX5_plantWhole yX5_plantWhole, Cond.initialized RX5, Cond.code yX5_plantWhole cX5_plantWhole 2 none, Cond.fieldLink RX5 30 "PrefixLeader$Tree" "size" "I", Cond.fieldLink RX5 34 "PrefixLeader$Lines" "size" "I", Cond.methodLink RX5 37 yX5_grow, Cond.instanceMethod yX5_grow]
def wsX7_combine_r4 : List Cond := [Cond.selects RX5 yX5_grow yX5_grow, Cond.code yX5_grow cX5_grow 11 (some .int), Cond.fieldLink RX5 11 "PrefixLeader$Tree" "address" "[I", Cond.fieldLink RX5 15 "PrefixLeader$Tree" "bits" "[I", Cond.fieldLink RX5 18 "PrefixLeader$Tree" "goal" "[I", Cond.fieldLink RX5 45 "PrefixLeader$Lines" "goal" "[I", Cond.fieldLink RX5 21 "PrefixLeader$Tree" "low" "[I", Cond.fieldLink RX5 24 "PrefixLeader$Tree" "high" "[I", Cond.fieldLink RX5 27 "PrefixLeader$Tree" "sets" "[I", Cond.methodLink RX5 41 yX2_isAt, Cond.methodLink RX5 46 yX2_firstHigh, Cond.instanceMethod yX2_firstHigh, Cond.selects RX2 yX2_firstHigh yX2_firstHigh, Cond.code yX2_firstHigh cX2_firstHigh 5 (some .int), Cond.static yX7_bitAt, Cond.code yX7_bitAt cX7_bitAt 1 (some .int), Cond.constant RX7 217 (-2147483648), Cond.methodLink RX5 50 yX5_growSide, Cond.instanceMethod yX5_growSide, Cond.selects RX5 yX5_growSide yX5_growSide, Cond.methodLink RX5 54 yX5_setOfSide, Cond.instanceMethod yX5_setOfSide, Cond.selects RX5 yX5_setOfSide yX5_setOfSide, Cond.code yX5_setOfSide cX5_setOfSide 5 (some .int)]
def wsX7_combine_r5 : List Cond := [Cond.methodLink RX5 58 yX5_both, Cond.static yX5_both, Cond.code yX5_both cX5_both 2 (some .int), Cond.code yX5_growSide cX5_growSide 6 (some .int), Cond.fieldLink RX5 64 "PrefixLeader$Lines" "address" "[I", Cond.methodLink RX5 61 yX2_commonBits, Cond.instanceMethod yX2_commonBits, Cond.selects RX2 yX2_commonBits yX2_commonBits, Cond.code yX2_commonBits cX2_commonBits 3 (some .int), Cond.methodLink RX2 79 yJ6_numberOfLeadingZeros_0f7a4, Cond.static yJ6_numberOfLeadingZeros_0f7a4, Cond.initialized RJ6, Cond.code yJ6_numberOfLeadingZeros_0f7a4 cJ6_numberOfLeadingZeros_0f7a4 2 (some .int), Cond.constant RJ6 264 (65536), Cond.methodLink RX7 201 yX5_writeLeast, Cond.instanceMethod yX5_writeLeast, Cond.selects RX5 yX5_writeLeast yX5_writeLeast, Cond.code yX5_writeLeast cX5_writeLeast 2 none, Cond.methodLink RX5 69 yX2_clear, Cond.methodLink RX5 72 yX5_writeNode, Cond.instanceMethod yX5_writeNode, Cond.selects RX5 yX5_writeNode yX5_writeNode, Cond.code yX5_writeNode cX5_writeNode 6 none, Cond.methodLink RX5 76 yX5_writeIfNeeded]
def wsX7_combine_r6 : List Cond := [Cond.static yX5_writeIfNeeded, Cond.code yX5_writeIfNeeded cX5_writeIfNeeded 6 (some .int), Cond.methodLink RX5 91 yJ6_numberOfTrailingZeros_0f7a4, Cond.static yJ6_numberOfTrailingZeros_0f7a4, Cond.code yJ6_numberOfTrailingZeros_0f7a4 cJ6_numberOfTrailingZeros_0f7a4 2 (some .int), Cond.methodLink RX5 96 yX2_append, Cond.methodLink RX5 80 yX5_writeSide, Cond.instanceMethod yX5_writeSide, Cond.selects RX5 yX5_writeSide yX5_writeSide, Cond.code yX5_writeSide cX5_writeSide 9 none, Cond.methodLink RX5 87 yX5_writeWithTwin, Cond.instanceMethod yX5_writeWithTwin, Cond.selects RX5 yX5_writeWithTwin yX5_writeWithTwin, Cond.code yX5_writeWithTwin cX5_writeWithTwin 10 none, Cond.methodLink RX7 93 yX2_become, Cond.instanceMethod yX2_become, Cond.selects RX2 yX2_become yX2_become, Cond.code yX2_become cX2_become 4 none, Cond.methodLink RX2 61 yX2_write, Cond.instanceMethod yX2_write, Cond.selects RX2 yX2_write yX2_write, Cond.code yX2_write cX2_write 5 none]
def wsX7_combine : List Cond := .code yX7_combine cX7_combine 5 (some .int) :: ((wsX7_combine_r1 ++ (wsX7_combine_r2 ++ (wsX7_combine_r3 ++ (wsX7_combine_r4 ++ (wsX7_combine_r5 ++ wsX7_combine_r6))))) ++ wsX70 ++ wsX20 ++ wsX50)
def wsX7_cover : List Cond := .code yX7_cover cX7_cover 3 (some .int) :: ([.fieldLink RX7 52 "PrefixLeader" "latestCover" "LPrefixLeader$Cover;", .methodLink RX7 158 yX7_wide, .static yX7_wide, .initialized RX7, .code yX7_wide cX7_wide 1 (some .long), .constantLong RX7 218 (4294967295), .methodLink RX7 161 yX0_make, .instanceMethod yX0_make, .selects RX0 yX0_make yX0_make, .initialized RX0, .code yX0_make cX0_make 8 none, .fieldLink RX0 19 "PrefixLeader$Cover" "size" "I", .fieldLink RX0 11 "PrefixLeader$Cover" "address" "[J", .fieldLink RX0 15 "PrefixLeader$Cover" "bits" "[I", .methodLink RX0 23 yX0_fewestBits, .static yX0_fewestBits, .code yX0_fewestBits cX0_fewestBits 7 (some .int), .methodLink RX0 27 yX0_addressesOf, .static yX0_addressesOf, .code yX0_addressesOf cX0_addressesOf 1 (some .long), .constantLong RX0 31 (4294967296)] ++ wsX70 ++ wsX00)
def wsX7_piece : List Cond := .code yX7_piece cX7_piece 3 (some .long) :: ([.fieldLink RX7 52 "PrefixLeader" "latestCover" "LPrefixLeader$Cover;", .methodLink RX7 166 yX0_tell, .instanceMethod yX0_tell, .selects RX0 yX0_tell yX0_tell, .initialized RX0, .code yX0_tell cX0_tell 3 (some .long), .fieldLink RX0 19 "PrefixLeader$Cover" "size" "I", .constantLong RX0 33 (-1), .fieldLink RX0 11 "PrefixLeader$Cover" "address" "[J", .fieldLink RX0 15 "PrefixLeader$Cover" "bits" "[I"] ++ wsX70 ++ wsX00)
def wsX7_way_r1 : List Cond := [Cond.fieldLink RX7 59 "PrefixLeader" "latestWay" "LPrefixLeader$Way;", Cond.fieldLink RX7 11 "PrefixLeader" "books" "[LPrefixLeader$Lines;", Cond.methodLink RX7 63 yX7_isBook, Cond.static yX7_isBook, Cond.initialized RX7, Cond.code yX7_isBook cX7_isBook 1 (some .boolean), Cond.methodLink RX7 167 yX6_lay, Cond.instanceMethod yX6_lay, Cond.selects RX6 yX6_lay yX6_lay, Cond.initialized RX6, Cond.code yX6_lay cX6_lay 4 none, Cond.fieldLink RX6 14 "PrefixLeader$Way" "start" "LPrefixLeader$Lines;", Cond.fieldLink RX6 20 "PrefixLeader$Way" "puts" "LPrefixLeader$Lines;", Cond.fieldLink RX6 23 "PrefixLeader$Way" "drops" "LPrefixLeader$Lines;", Cond.fieldLink RX6 48 "PrefixLeader$Lines" "size" "I", Cond.fieldLink RX6 30 "PrefixLeader$Way" "size" "I", Cond.methodLink RX6 34 yX2_become, Cond.instanceMethod yX2_become, Cond.selects RX2 yX2_become yX2_become, Cond.initialized RX2, Cond.code yX2_become cX2_become 4 none, Cond.fieldLink RX2 39 "PrefixLeader$Lines" "size" "I", Cond.fieldLink RX2 15 "PrefixLeader$Lines" "room" "I", Cond.methodLink RX2 55 Lib.Math.min.name]
def wsX7_way_r2 : List Cond := [Cond.static Lib.Math.min.name, Cond.initialized "java/lang/Math", Cond.code Lib.Math.min.name Lib.Math.min.code 2 (some .int), Cond.fieldLink RX2 21 "PrefixLeader$Lines" "address" "[I", Cond.fieldLink RX2 25 "PrefixLeader$Lines" "bits" "[I", Cond.fieldLink RX2 28 "PrefixLeader$Lines" "goal" "[I", Cond.methodLink RX2 61 yX2_write, Cond.instanceMethod yX2_write, Cond.selects RX2 yX2_write yX2_write, Cond.code yX2_write cX2_write 5 none, Cond.methodLink RX6 38 yX2_clear, Cond.instanceMethod yX2_clear, Cond.selects RX2 yX2_clear yX2_clear, Cond.code yX2_clear cX2_clear 1 none, Cond.methodLink RX6 41 yX6_appendPuts, Cond.instanceMethod yX6_appendPuts, Cond.selects RX6 yX6_appendPuts yX6_appendPuts, Cond.code yX6_appendPuts cX6_appendPuts 5 none, Cond.fieldLink RX6 49 "PrefixLeader$Lines" "bits" "[I", Cond.fieldLink RX6 52 "PrefixLeader$Lines" "address" "[I", Cond.fieldLink RX6 55 "PrefixLeader$Lines" "goal" "[I", Cond.methodLink RX6 58 yX2_hasLine, Cond.instanceMethod yX2_hasLine, Cond.selects RX2 yX2_hasLine yX2_hasLine]
def wsX7_way_r3 : List Cond := [Cond.code yX2_hasLine cX2_hasLine 5 (some .boolean), Cond.methodLink RX2 42 yX2_placeOf, Cond.instanceMethod yX2_placeOf, Cond.selects RX2 yX2_placeOf yX2_placeOf, Cond.code yX2_placeOf cX2_placeOf 4 (some .int), Cond.methodLink RX2 49 yX2_isAhead, Cond.instanceMethod yX2_isAhead, Cond.selects RX2 yX2_isAhead yX2_isAhead, Cond.code yX2_isAhead cX2_isAhead 4 (some .boolean), Cond.static yX7_wide, Cond.code yX7_wide cX7_wide 1 (some .long), Cond.constantLong RX7 218 (4294967295), Cond.methodLink RX2 45 yX2_isAt, Cond.instanceMethod yX2_isAt, Cond.selects RX2 yX2_isAt yX2_isAt, Cond.code yX2_isAt cX2_isAt 4 (some .boolean), Cond.methodLink RX6 62 yX2_append, Cond.instanceMethod yX2_append, Cond.selects RX2 yX2_append yX2_append, Cond.code yX2_append cX2_append 4 none, Cond.methodLink RX6 45 yX6_appendDrops, Cond.instanceMethod yX6_appendDrops, Cond.selects RX6 yX6_appendDrops yX6_appendDrops, Cond.code yX6_appendDrops cX6_appendDrops 5 none]
def wsX7_way_r4 : List Cond := [Cond.methodLink RX6 66 yX2_hasBeginning, Cond.instanceMethod yX2_hasBeginning, Cond.selects RX2 yX2_hasBeginning yX2_hasBeginning, Cond.code yX2_hasBeginning cX2_hasBeginning 3 (some .boolean)]
def wsX7_way : List Cond := .code yX7_way cX7_way 3 (some .int) :: ((wsX7_way_r1 ++ (wsX7_way_r2 ++ (wsX7_way_r3 ++ wsX7_way_r4))) ++ wsX70 ++ wsX60 ++ wsX20)
def wsX7_step : List Cond := .code yX7_step cX7_step 3 (some .long) :: ([.fieldLink RX7 59 "PrefixLeader" "latestWay" "LPrefixLeader$Way;", .methodLink RX7 172 yX6_tell, .instanceMethod yX6_tell, .selects RX6 yX6_tell yX6_tell, .initialized RX6, .code yX6_tell cX6_tell 6 (some .long), .fieldLink RX6 30 "PrefixLeader$Way" "size" "I", .constantLong RX6 70 (-1), .fieldLink RX6 20 "PrefixLeader$Way" "puts" "LPrefixLeader$Lines;", .fieldLink RX6 48 "PrefixLeader$Lines" "size" "I", .fieldLink RX6 23 "PrefixLeader$Way" "drops" "LPrefixLeader$Lines;", .fieldLink RX6 49 "PrefixLeader$Lines" "bits" "[I", .fieldLink RX6 55 "PrefixLeader$Lines" "goal" "[I", .methodLink RX6 72 yX2_first, .instanceMethod yX2_first, .selects RX2 yX2_first yX2_first, .initialized RX2, .code yX2_first cX2_first 2 (some .long), .fieldLink RX2 21 "PrefixLeader$Lines" "address" "[I", .static yX7_wide, .initialized RX7, .code yX7_wide cX7_wide 1 (some .long), .constantLong RX7 218 (4294967295)] ++ wsX70 ++ wsX60 ++ wsX20)
def wsX7_led_r1 : List Cond := [Cond.fieldLink RX7 59 "PrefixLeader" "latestWay" "LPrefixLeader$Way;", Cond.methodLink RX7 173 yX6_goalBehind, Cond.instanceMethod yX6_goalBehind, Cond.selects RX6 yX6_goalBehind yX6_goalBehind, Cond.initialized RX6, Cond.code yX6_goalBehind cX6_goalBehind 4 (some .int), Cond.fieldLink RX6 30 "PrefixLeader$Way" "size" "I", Cond.fieldLink RX6 26 "PrefixLeader$Way" "goalByBits" "[I", Cond.fieldLink RX6 14 "PrefixLeader$Way" "start" "LPrefixLeader$Lines;", Cond.fieldLink RX6 48 "PrefixLeader$Lines" "size" "I", Cond.fieldLink RX6 20 "PrefixLeader$Way" "puts" "LPrefixLeader$Lines;", Cond.methodLink RX6 80 Lib.Math.min.name, Cond.static Lib.Math.min.name, Cond.initialized "java/lang/Math", Cond.code Lib.Math.min.name Lib.Math.min.code 2 (some .int), Cond.fieldLink RX6 23 "PrefixLeader$Way" "drops" "LPrefixLeader$Lines;", Cond.methodLink RX6 76 yX6_noteHolders, Cond.instanceMethod yX6_noteHolders, Cond.selects RX6 yX6_noteHolders yX6_noteHolders, Cond.code yX6_noteHolders cX6_noteHolders 6 none, Cond.fieldLink RX6 52 "PrefixLeader$Lines" "address" "[I", Cond.fieldLink RX6 49 "PrefixLeader$Lines" "bits" "[I", Cond.fieldLink RX6 55 "PrefixLeader$Lines" "goal" "[I", Cond.static yX7_begins]
def wsX7_led_r2 : List Cond := [Cond.initialized RX7, Cond.code yX7_begins cX7_begins 3 (some .boolean), Cond.methodLink RX7 207 yX7_mask, Cond.static yX7_mask, Cond.code yX7_mask cX7_mask 1 (some .int), Cond.methodLink RX7 210 Lib.Math.min.name]
def wsX7_led : List Cond := .code yX7_led cX7_led 3 (some .int) :: ((wsX7_led_r1 ++ wsX7_led_r2) ++ wsX70 ++ wsX60 ++ wsX20)
def wsX7_nodes_r1 : List Cond := [Cond.constantLong RX7 101 (-1), Cond.fieldLink RX7 28 "PrefixLeader" "tree" "LPrefixLeader$Tree;", Cond.fieldLink RX7 11 "PrefixLeader" "books" "[LPrefixLeader$Lines;", Cond.methodLink RX7 63 yX7_isBook, Cond.static yX7_isBook, Cond.initialized RX7, Cond.code yX7_isBook cX7_isBook 1 (some .boolean), Cond.methodLink RX7 176 yX5_plantWhole, Cond.instanceMethod yX5_plantWhole, Cond.selects RX5 yX5_plantWhole yX5_plantWhole, Cond.initialized RX5, Cond.code yX5_plantWhole cX5_plantWhole 2 none, Cond.fieldLink RX5 30 "PrefixLeader$Tree" "size" "I", Cond.fieldLink RX5 34 "PrefixLeader$Lines" "size" "I", Cond.methodLink RX5 37 yX5_grow, Cond.instanceMethod yX5_grow, Cond.selects RX5 yX5_grow yX5_grow, Cond.code yX5_grow cX5_grow 11 (some .int), Cond.fieldLink RX5 11 "PrefixLeader$Tree" "address" "[I", Cond.fieldLink RX5 15 "PrefixLeader$Tree" "bits" "[I", Cond.fieldLink RX5 18 "PrefixLeader$Tree" "goal" "[I", Cond.fieldLink RX5 45 "PrefixLeader$Lines" "goal" "[I", Cond.fieldLink RX5 21 "PrefixLeader$Tree" "low" "[I", Cond.fieldLink RX5 24 "PrefixLeader$Tree" "high" "[I"]
def wsX7_nodes_r2 : List Cond := [Cond.fieldLink RX5 27 "PrefixLeader$Tree" "sets" "[I", Cond.methodLink RX5 41 yX2_isAt, Cond.instanceMethod yX2_isAt, Cond.selects RX2 yX2_isAt yX2_isAt, Cond.initialized RX2, Cond.code yX2_isAt cX2_isAt 4 (some .boolean), Cond.fieldLink RX2 39 "PrefixLeader$Lines" "size" "I", Cond.fieldLink RX2 21 "PrefixLeader$Lines" "address" "[I", Cond.fieldLink RX2 25 "PrefixLeader$Lines" "bits" "[I", Cond.methodLink RX5 46 yX2_firstHigh, Cond.instanceMethod yX2_firstHigh, Cond.selects RX2 yX2_firstHigh yX2_firstHigh, Cond.code yX2_firstHigh cX2_firstHigh 5 (some .int), Cond.static yX7_bitAt, Cond.code yX7_bitAt cX7_bitAt 1 (some .int), Cond.constant RX7 217 (-2147483648), Cond.methodLink RX5 50 yX5_growSide, Cond.instanceMethod yX5_growSide, Cond.selects RX5 yX5_growSide yX5_growSide, Cond.methodLink RX5 54 yX5_setOfSide, Cond.instanceMethod yX5_setOfSide, Cond.selects RX5 yX5_setOfSide yX5_setOfSide, Cond.code yX5_setOfSide cX5_setOfSide 5 (some .int), Cond.methodLink RX5 58 yX5_both]
def wsX7_nodes_r3 : List Cond := [Cond.static yX5_both, Cond.code yX5_both cX5_both 2 (some .int), Cond.code yX5_growSide cX5_growSide 6 (some .int), Cond.fieldLink RX5 64 "PrefixLeader$Lines" "address" "[I", Cond.methodLink RX5 61 yX2_commonBits, Cond.instanceMethod yX2_commonBits, Cond.selects RX2 yX2_commonBits yX2_commonBits, Cond.code yX2_commonBits cX2_commonBits 3 (some .int), Cond.methodLink RX2 55 Lib.Math.min.name, Cond.static Lib.Math.min.name, Cond.initialized "java/lang/Math", Cond.code Lib.Math.min.name Lib.Math.min.code 2 (some .int), Cond.methodLink RX2 79 yJ6_numberOfLeadingZeros_0f7a4, Cond.static yJ6_numberOfLeadingZeros_0f7a4, Cond.initialized RJ6, Cond.code yJ6_numberOfLeadingZeros_0f7a4 cJ6_numberOfLeadingZeros_0f7a4 2 (some .int), Cond.constant RJ6 264 (65536), Cond.static yX7_mask, Cond.code yX7_mask cX7_mask 1 (some .int), Cond.methodLink RX7 210 Lib.Math.min.name, Cond.methodLink RX7 180 yX4_nodesOf, Cond.static yX4_nodesOf, Cond.initialized RX4, Cond.code yX4_nodesOf cX4_nodesOf 3 (some .int)]
def wsX7_nodes_r4 : List Cond := [Cond.methodLink RX4 9 yX4_nodesAt, Cond.static yX4_nodesAt, Cond.code yX4_nodesAt cX4_nodesAt 6 (some .int), Cond.fieldLink RX4 15 "PrefixLeader$Lines" "size" "I", Cond.fieldLink RX4 21 "PrefixLeader$Lines" "address" "[I", Cond.fieldLink RX4 29 "PrefixLeader$Lines" "bits" "[I", Cond.methodLink RX7 186 yX4_deepest, Cond.static yX4_deepest, Cond.code yX4_deepest cX4_deepest 3 (some .int), Cond.methodLink RX7 189 yX4_stepsDownTo, Cond.static yX4_stepsDownTo, Cond.code yX4_stepsDownTo cX4_stepsDownTo 1 (some .int), Cond.methodLink RX7 193 yX4_firstDeepest, Cond.static yX4_firstDeepest, Cond.code yX4_firstDeepest cX4_firstDeepest 3 (some .long), Cond.methodLink RX4 32 yX4_deepest, Cond.static yX7_wide, Cond.code yX7_wide cX7_wide 1 (some .long), Cond.constantLong RX7 218 (4294967295)]
def wsX7_nodes : List Cond := .code yX7_nodes cX7_nodes 3 (some .long) :: ((wsX7_nodes_r1 ++ (wsX7_nodes_r2 ++ (wsX7_nodes_r3 ++ wsX7_nodes_r4))) ++ wsX70 ++ wsX50 ++ wsX20)
def wsX7_steps_r1 : List Cond := [Cond.fieldLink RX7 11 "PrefixLeader" "books" "[LPrefixLeader$Lines;", Cond.methodLink RX7 63 yX7_isBook, Cond.static yX7_isBook, Cond.initialized RX7, Cond.code yX7_isBook cX7_isBook 1 (some .boolean), Cond.methodLink RX7 197 yX4_stepsOf, Cond.static yX4_stepsOf, Cond.initialized RX4, Cond.code yX4_stepsOf cX4_stepsOf 3 (some .int), Cond.static yX7_mask, Cond.code yX7_mask cX7_mask 1 (some .int), Cond.methodLink RX7 210 Lib.Math.min.name, Cond.static Lib.Math.min.name, Cond.initialized "java/lang/Math", Cond.code Lib.Math.min.name Lib.Math.min.code 2 (some .int), Cond.methodLink RX4 40 yX4_hasNode, Cond.static yX4_hasNode, Cond.code yX4_hasNode cX4_hasNode 4 (some .boolean), Cond.fieldLink RX4 15 "PrefixLeader$Lines" "size" "I", Cond.fieldLink RX4 29 "PrefixLeader$Lines" "bits" "[I", Cond.fieldLink RX4 21 "PrefixLeader$Lines" "address" "[I", Cond.static yX7_begins, Cond.code yX7_begins cX7_begins 3 (some .boolean), Cond.methodLink RX7 207 yX7_mask]
def wsX7_steps_r2 : List Cond := [Cond.methodLink RX4 44 yX4_stepsDownTo, Cond.static yX4_stepsDownTo, Cond.code yX4_stepsDownTo cX4_stepsDownTo 1 (some .int)]
def wsX7_steps : List Cond := .code yX7_steps cX7_steps 3 (some .int) :: ((wsX7_steps_r1 ++ wsX7_steps_r2) ++ wsX70 ++ wsX20)
def wsX8_init_r1 : List Cond := [Cond.methodLink RX8 1 objectInit, Cond.instanceMethod objectInit, Cond.code objectInit ⟨#[0xb1]⟩ 1 none, Cond.arrayClass .int, Cond.fieldLink RX8 7 "PrefixLeaderModel" "many" "[I", Cond.arrayClass .long, Cond.fieldLink RX8 13 "PrefixLeaderModel" "address" "[J", Cond.fieldLink RX8 17 "PrefixLeaderModel" "bits" "[I", Cond.fieldLink RX8 20 "PrefixLeaderModel" "goal" "[I", Cond.fieldLink RX8 23 "PrefixLeaderModel" "from" "[J", Cond.fieldLink RX8 26 "PrefixLeaderModel" "led" "[I", Cond.fieldLink RX8 29 "PrefixLeaderModel" "mixedMany" "[I", Cond.fieldLink RX8 32 "PrefixLeaderModel" "mixed" "[J", Cond.fieldLink RX8 35 "PrefixLeaderModel" "mixedSet" "[I", Cond.fieldLink RX8 38 "PrefixLeaderModel" "here" "[J", Cond.fieldLink RX8 41 "PrefixLeaderModel" "comes" "[I", Cond.fieldLink RX8 44 "PrefixLeaderModel" "next" "[J", Cond.fieldLink RX8 47 "PrefixLeaderModel" "nextComes" "[I", Cond.fieldLink RX8 50 "PrefixLeaderModel" "madeAddress" "[J", Cond.fieldLink RX8 53 "PrefixLeaderModel" "madeBits" "[I", Cond.fieldLink RX8 56 "PrefixLeaderModel" "madeGoal" "[I", Cond.fieldLink RX8 59 "PrefixLeaderModel" "pieceAddress" "[J", Cond.fieldLink RX8 62 "PrefixLeaderModel" "pieceBits" "[I", Cond.fieldLink RX8 65 "PrefixLeaderModel" "stepKind" "[I"]
def wsX8_init_r2 : List Cond := [Cond.fieldLink RX8 68 "PrefixLeaderModel" "stepAddress" "[J", Cond.fieldLink RX8 71 "PrefixLeaderModel" "stepBits" "[I", Cond.fieldLink RX8 74 "PrefixLeaderModel" "stepGoal" "[I", Cond.fieldLink RX8 77 "PrefixLeaderModel" "wayAddress" "[J", Cond.fieldLink RX8 80 "PrefixLeaderModel" "wayBits" "[I", Cond.fieldLink RX8 83 "PrefixLeaderModel" "wayGoal" "[I", Cond.fieldLink RX8 86 "PrefixLeaderModel" "seen" "[J", Cond.fieldLink RX8 89 "PrefixLeaderModel" "seenBits" "[I"]
def wsX8_init : List Cond := .code yX8_init cX8_init 1 none :: ((wsX8_init_r1 ++ wsX8_init_r2) ++ wsX80)
def wsX8_lies : List Cond := .code yX8_lies cX8_lies 3 (some .boolean) :: ([])
def wsX8_isBook : List Cond := .code yX8_isBook cX8_isBook 1 (some .boolean) :: ([.methodLink RX8 92 yX8_lies, .static yX8_lies, .initialized RX8, .code yX8_lies cX8_lies 3 (some .boolean)])
def wsX8_number : List Cond := .code yX8_number cX8_number 1 (some .long) :: ([.constantLong RX8 96 (4294967295)])
def wsX8_size : List Cond := .code yX8_size cX8_size 1 (some .long) :: ([])
def wsX8_isBeginning : List Cond := .code yX8_isBeginning cX8_isBeginning 2 (some .boolean) :: ([.methodLink RX8 92 yX8_lies, .static yX8_lies, .initialized RX8, .code yX8_lies cX8_lies 3 (some .boolean), .methodLink RX8 98 yX8_number, .static yX8_number, .code yX8_number cX8_number 1 (some .long), .constantLong RX8 96 (4294967295), .methodLink RX8 102 yX8_size, .static yX8_size, .code yX8_size cX8_size 1 (some .long)])
def wsX8_begins : List Cond := .code yX8_begins cX8_begins 5 (some .boolean) :: ([.methodLink RX8 102 yX8_size, .static yX8_size, .initialized RX8, .code yX8_size cX8_size 1 (some .long)])
def wsX8_at : List Cond := .code yX8_at cX8_at 6 (some .int) :: ([.fieldLink RX8 7 "PrefixLeaderModel" "many" "[I", .fieldLink RX8 13 "PrefixLeaderModel" "address" "[J", .fieldLink RX8 17 "PrefixLeaderModel" "bits" "[I"] ++ wsX80)
def wsX8_moves : List Cond := .code yX8_moves cX8_moves 4 none :: ([.fieldLink RX8 13 "PrefixLeaderModel" "address" "[J", .fieldLink RX8 17 "PrefixLeaderModel" "bits" "[I", .fieldLink RX8 20 "PrefixLeaderModel" "goal" "[I"] ++ wsX80)
def wsX8_comes : List Cond := .code yX8_comes cX8_comes 7 none :: ([.fieldLink RX8 7 "PrefixLeaderModel" "many" "[I", .fieldLink RX8 13 "PrefixLeaderModel" "address" "[J", .fieldLink RX8 17 "PrefixLeaderModel" "bits" "[I", .fieldLink RX8 20 "PrefixLeaderModel" "goal" "[I", .methodLink RX8 105 yX8_moves, .instanceMethod yX8_moves, .selects RX8 yX8_moves yX8_moves, .initialized RX8, .code yX8_moves cX8_moves 4 none] ++ wsX80)
def wsX8_put_r1 : List Cond := [Cond.fieldLink RX8 20 "PrefixLeaderModel" "goal" "[I", Cond.fieldLink RX8 7 "PrefixLeaderModel" "many" "[I", Cond.methodLink RX8 109 yX8_isBook, Cond.static yX8_isBook, Cond.initialized RX8, Cond.code yX8_isBook cX8_isBook 1 (some .boolean), Cond.methodLink RX8 92 yX8_lies, Cond.static yX8_lies, Cond.code yX8_lies cX8_lies 3 (some .boolean), Cond.methodLink RX8 113 yX8_isBeginning, Cond.static yX8_isBeginning, Cond.code yX8_isBeginning cX8_isBeginning 2 (some .boolean), Cond.methodLink RX8 98 yX8_number, Cond.static yX8_number, Cond.code yX8_number cX8_number 1 (some .long), Cond.constantLong RX8 96 (4294967295), Cond.methodLink RX8 102 yX8_size, Cond.static yX8_size, Cond.code yX8_size cX8_size 1 (some .long), Cond.methodLink RX8 117 yX8_at, Cond.instanceMethod yX8_at, Cond.selects RX8 yX8_at yX8_at, Cond.code yX8_at cX8_at 6 (some .int), Cond.fieldLink RX8 13 "PrefixLeaderModel" "address" "[J"]
def wsX8_put_r2 : List Cond := [Cond.fieldLink RX8 17 "PrefixLeaderModel" "bits" "[I", Cond.methodLink RX8 121 yX8_comes, Cond.instanceMethod yX8_comes, Cond.selects RX8 yX8_comes yX8_comes, Cond.code yX8_comes cX8_comes 7 none, Cond.methodLink RX8 105 yX8_moves, Cond.instanceMethod yX8_moves, Cond.selects RX8 yX8_moves yX8_moves, Cond.code yX8_moves cX8_moves 4 none]
def wsX8_put : List Cond := .code yX8_put cX8_put 6 (some .int) :: ((wsX8_put_r1 ++ wsX8_put_r2) ++ wsX80)
def wsX8_drop_r1 : List Cond := [Cond.fieldLink RX8 7 "PrefixLeaderModel" "many" "[I", Cond.methodLink RX8 109 yX8_isBook, Cond.static yX8_isBook, Cond.initialized RX8, Cond.code yX8_isBook cX8_isBook 1 (some .boolean), Cond.methodLink RX8 92 yX8_lies, Cond.static yX8_lies, Cond.code yX8_lies cX8_lies 3 (some .boolean), Cond.methodLink RX8 113 yX8_isBeginning, Cond.static yX8_isBeginning, Cond.code yX8_isBeginning cX8_isBeginning 2 (some .boolean), Cond.methodLink RX8 98 yX8_number, Cond.static yX8_number, Cond.code yX8_number cX8_number 1 (some .long), Cond.constantLong RX8 96 (4294967295), Cond.methodLink RX8 102 yX8_size, Cond.static yX8_size, Cond.code yX8_size cX8_size 1 (some .long), Cond.methodLink RX8 117 yX8_at, Cond.instanceMethod yX8_at, Cond.selects RX8 yX8_at yX8_at, Cond.code yX8_at cX8_at 6 (some .int), Cond.fieldLink RX8 13 "PrefixLeaderModel" "address" "[J", Cond.fieldLink RX8 17 "PrefixLeaderModel" "bits" "[I"]
def wsX8_drop_r2 : List Cond := [Cond.methodLink RX8 105 yX8_moves, Cond.instanceMethod yX8_moves, Cond.selects RX8 yX8_moves yX8_moves, Cond.code yX8_moves cX8_moves 4 none, Cond.fieldLink RX8 20 "PrefixLeaderModel" "goal" "[I"]
def wsX8_drop : List Cond := .code yX8_drop cX8_drop 6 (some .boolean) :: ((wsX8_drop_r1 ++ wsX8_drop_r2) ++ wsX80)
def wsX8_copy : List Cond := .code yX8_copy cX8_copy 4 (some .int) :: ([.fieldLink RX8 7 "PrefixLeaderModel" "many" "[I", .fieldLink RX8 13 "PrefixLeaderModel" "address" "[J", .fieldLink RX8 17 "PrefixLeaderModel" "bits" "[I", .fieldLink RX8 20 "PrefixLeaderModel" "goal" "[I", .methodLink RX8 109 yX8_isBook, .static yX8_isBook, .initialized RX8, .code yX8_isBook cX8_isBook 1 (some .boolean), .methodLink RX8 92 yX8_lies, .static yX8_lies, .code yX8_lies cX8_lies 3 (some .boolean)] ++ wsX80)
def wsX8_count : List Cond := .code yX8_count cX8_count 2 (some .int) :: ([.fieldLink RX8 7 "PrefixLeaderModel" "many" "[I", .methodLink RX8 109 yX8_isBook, .static yX8_isBook, .initialized RX8, .code yX8_isBook cX8_isBook 1 (some .boolean), .methodLink RX8 92 yX8_lies, .static yX8_lies, .code yX8_lies cX8_lies 3 (some .boolean)] ++ wsX80)
def wsX8_line : List Cond := .code yX8_line cX8_line 5 (some .long) :: ([.fieldLink RX8 7 "PrefixLeaderModel" "many" "[I", .constantLong RX8 124 (-1), .fieldLink RX8 13 "PrefixLeaderModel" "address" "[J", .fieldLink RX8 17 "PrefixLeaderModel" "bits" "[I", .fieldLink RX8 20 "PrefixLeaderModel" "goal" "[I", .methodLink RX8 109 yX8_isBook, .static yX8_isBook, .initialized RX8, .code yX8_isBook cX8_isBook 1 (some .boolean), .methodLink RX8 92 yX8_lies, .static yX8_lies, .code yX8_lies cX8_lies 3 (some .boolean)] ++ wsX80)
def wsX8_best : List Cond := .code yX8_best cX8_best 6 (some .int) :: ([.fieldLink RX8 7 "PrefixLeaderModel" "many" "[I", .fieldLink RX8 13 "PrefixLeaderModel" "address" "[J", .fieldLink RX8 17 "PrefixLeaderModel" "bits" "[I", .methodLink RX8 126 yX8_begins, .static yX8_begins, .initialized RX8, .code yX8_begins cX8_begins 5 (some .boolean), .methodLink RX8 102 yX8_size, .static yX8_size, .code yX8_size cX8_size 1 (some .long)] ++ wsX80)
def wsX8_leads : List Cond := .code yX8_leads cX8_leads 5 (some .int) :: ([.fieldLink RX8 20 "PrefixLeaderModel" "goal" "[I", .methodLink RX8 130 yX8_best, .instanceMethod yX8_best, .selects RX8 yX8_best yX8_best, .initialized RX8, .code yX8_best cX8_best 6 (some .int), .fieldLink RX8 7 "PrefixLeaderModel" "many" "[I", .fieldLink RX8 13 "PrefixLeaderModel" "address" "[J", .fieldLink RX8 17 "PrefixLeaderModel" "bits" "[I", .methodLink RX8 126 yX8_begins, .static yX8_begins, .code yX8_begins cX8_begins 5 (some .boolean), .methodLink RX8 102 yX8_size, .static yX8_size, .code yX8_size cX8_size 1 (some .long)] ++ wsX80)
def wsX8_find_r1 : List Cond := [Cond.methodLink RX8 109 yX8_isBook, Cond.static yX8_isBook, Cond.initialized RX8, Cond.code yX8_isBook cX8_isBook 1 (some .boolean), Cond.methodLink RX8 92 yX8_lies, Cond.static yX8_lies, Cond.code yX8_lies cX8_lies 3 (some .boolean), Cond.methodLink RX8 98 yX8_number, Cond.static yX8_number, Cond.code yX8_number cX8_number 1 (some .long), Cond.constantLong RX8 96 (4294967295), Cond.methodLink RX8 134 yX8_leads, Cond.instanceMethod yX8_leads, Cond.selects RX8 yX8_leads yX8_leads, Cond.code yX8_leads cX8_leads 5 (some .int), Cond.fieldLink RX8 20 "PrefixLeaderModel" "goal" "[I", Cond.methodLink RX8 130 yX8_best, Cond.instanceMethod yX8_best, Cond.selects RX8 yX8_best yX8_best, Cond.code yX8_best cX8_best 6 (some .int), Cond.fieldLink RX8 7 "PrefixLeaderModel" "many" "[I", Cond.fieldLink RX8 13 "PrefixLeaderModel" "address" "[J", Cond.fieldLink RX8 17 "PrefixLeaderModel" "bits" "[I", Cond.methodLink RX8 126 yX8_begins]
def wsX8_find_r2 : List Cond := [Cond.static yX8_begins, Cond.code yX8_begins cX8_begins 5 (some .boolean), Cond.methodLink RX8 102 yX8_size, Cond.static yX8_size, Cond.code yX8_size cX8_size 1 (some .long)]
def wsX8_find : List Cond := .code yX8_find cX8_find 3 (some .int) :: ((wsX8_find_r1 ++ wsX8_find_r2) ++ wsX80)
def wsX8_longest : List Cond := .code yX8_longest cX8_longest 3 (some .int) :: ([.methodLink RX8 109 yX8_isBook, .static yX8_isBook, .initialized RX8, .code yX8_isBook cX8_isBook 1 (some .boolean), .methodLink RX8 92 yX8_lies, .static yX8_lies, .code yX8_lies cX8_lies 3 (some .boolean), .methodLink RX8 98 yX8_number, .static yX8_number, .code yX8_number cX8_number 1 (some .long), .constantLong RX8 96 (4294967295), .methodLink RX8 130 yX8_best, .instanceMethod yX8_best, .selects RX8 yX8_best yX8_best, .code yX8_best cX8_best 6 (some .int), .fieldLink RX8 7 "PrefixLeaderModel" "many" "[I", .fieldLink RX8 13 "PrefixLeaderModel" "address" "[J", .fieldLink RX8 17 "PrefixLeaderModel" "bits" "[I", .methodLink RX8 126 yX8_begins, .static yX8_begins, .code yX8_begins cX8_begins 5 (some .boolean), .methodLink RX8 102 yX8_size, .static yX8_size, .code yX8_size cX8_size 1 (some .long)] ++ wsX80)
def wsX8_leads_ : List Cond := .code yX8_leads_ cX8_leads_ 8 (some .int) :: ([.methodLink RX8 134 yX8_leads, .instanceMethod yX8_leads, .selects RX8 yX8_leads yX8_leads, .initialized RX8, .code yX8_leads cX8_leads 5 (some .int), .fieldLink RX8 20 "PrefixLeaderModel" "goal" "[I", .methodLink RX8 130 yX8_best, .instanceMethod yX8_best, .selects RX8 yX8_best yX8_best, .code yX8_best cX8_best 6 (some .int), .fieldLink RX8 7 "PrefixLeaderModel" "many" "[I", .fieldLink RX8 13 "PrefixLeaderModel" "address" "[J", .fieldLink RX8 17 "PrefixLeaderModel" "bits" "[I", .methodLink RX8 126 yX8_begins, .static yX8_begins, .code yX8_begins cX8_begins 5 (some .boolean), .methodLink RX8 102 yX8_size, .static yX8_size, .code yX8_size cX8_size 1 (some .long)] ++ wsX80)
def wsX8_cuts : List Cond := .code yX8_cuts cX8_cuts 5 none :: ([.constantLong RX8 137 (4294967296), .fieldLink RX8 139 "PrefixLeaderModel" "spanMany" "I", .fieldLink RX8 23 "PrefixLeaderModel" "from" "[J"] ++ wsX80)
def wsX8_cutsOf : List Cond := .code yX8_cutsOf cX8_cutsOf 3 none :: ([.fieldLink RX8 7 "PrefixLeaderModel" "many" "[I", .fieldLink RX8 13 "PrefixLeaderModel" "address" "[J", .fieldLink RX8 17 "PrefixLeaderModel" "bits" "[I", .methodLink RX8 143 yX8_cuts, .instanceMethod yX8_cuts, .selects RX8 yX8_cuts yX8_cuts, .initialized RX8, .code yX8_cuts cX8_cuts 5 none, .constantLong RX8 137 (4294967296), .fieldLink RX8 139 "PrefixLeaderModel" "spanMany" "I", .fieldLink RX8 23 "PrefixLeaderModel" "from" "[J", .methodLink RX8 102 yX8_size, .static yX8_size, .code yX8_size cX8_size 1 (some .long)] ++ wsX80)
def wsX8_makeSpans_r1 : List Cond := [Cond.fieldLink RX8 139 "PrefixLeaderModel" "spanMany" "I", Cond.fieldLink RX8 23 "PrefixLeaderModel" "from" "[J", Cond.fieldLink RX8 26 "PrefixLeaderModel" "led" "[I", Cond.methodLink RX8 143 yX8_cuts, Cond.instanceMethod yX8_cuts, Cond.selects RX8 yX8_cuts yX8_cuts, Cond.initialized RX8, Cond.code yX8_cuts cX8_cuts 5 none, Cond.constantLong RX8 137 (4294967296), Cond.methodLink RX8 147 yX8_cutsOf, Cond.instanceMethod yX8_cutsOf, Cond.selects RX8 yX8_cutsOf yX8_cutsOf, Cond.code yX8_cutsOf cX8_cutsOf 3 none, Cond.fieldLink RX8 7 "PrefixLeaderModel" "many" "[I", Cond.fieldLink RX8 13 "PrefixLeaderModel" "address" "[J", Cond.fieldLink RX8 17 "PrefixLeaderModel" "bits" "[I", Cond.methodLink RX8 102 yX8_size, Cond.static yX8_size, Cond.code yX8_size cX8_size 1 (some .long), Cond.methodLink RX8 151 yX8_leads_, Cond.instanceMethod yX8_leads_, Cond.selects RX8 yX8_leads_ yX8_leads_, Cond.code yX8_leads_ cX8_leads_ 8 (some .int), Cond.methodLink RX8 134 yX8_leads]
def wsX8_makeSpans_r2 : List Cond := [Cond.instanceMethod yX8_leads, Cond.selects RX8 yX8_leads yX8_leads, Cond.code yX8_leads cX8_leads 5 (some .int), Cond.fieldLink RX8 20 "PrefixLeaderModel" "goal" "[I", Cond.methodLink RX8 130 yX8_best, Cond.instanceMethod yX8_best, Cond.selects RX8 yX8_best yX8_best, Cond.code yX8_best cX8_best 6 (some .int), Cond.methodLink RX8 126 yX8_begins, Cond.static yX8_begins, Cond.code yX8_begins cX8_begins 5 (some .boolean)]
def wsX8_makeSpans : List Cond := .code yX8_makeSpans cX8_makeSpans 7 none :: ((wsX8_makeSpans_r1 ++ wsX8_makeSpans_r2) ++ wsX80)
def wsX8_end : List Cond := .code yX8_end cX8_end 2 (some .long) :: ([.fieldLink RX8 139 "PrefixLeaderModel" "spanMany" "I", .fieldLink RX8 23 "PrefixLeaderModel" "from" "[J", .constantLong RX8 137 (4294967296)] ++ wsX80)
def wsX8_spans_r1 : List Cond := [Cond.fieldLink RX8 139 "PrefixLeaderModel" "spanMany" "I", Cond.methodLink RX8 109 yX8_isBook, Cond.static yX8_isBook, Cond.initialized RX8, Cond.code yX8_isBook cX8_isBook 1 (some .boolean), Cond.methodLink RX8 92 yX8_lies, Cond.static yX8_lies, Cond.code yX8_lies cX8_lies 3 (some .boolean), Cond.methodLink RX8 154 yX8_makeSpans, Cond.instanceMethod yX8_makeSpans, Cond.selects RX8 yX8_makeSpans yX8_makeSpans, Cond.code yX8_makeSpans cX8_makeSpans 7 none, Cond.fieldLink RX8 23 "PrefixLeaderModel" "from" "[J", Cond.fieldLink RX8 26 "PrefixLeaderModel" "led" "[I", Cond.methodLink RX8 143 yX8_cuts, Cond.instanceMethod yX8_cuts, Cond.selects RX8 yX8_cuts yX8_cuts, Cond.code yX8_cuts cX8_cuts 5 none, Cond.constantLong RX8 137 (4294967296), Cond.methodLink RX8 147 yX8_cutsOf, Cond.instanceMethod yX8_cutsOf, Cond.selects RX8 yX8_cutsOf yX8_cutsOf, Cond.code yX8_cutsOf cX8_cutsOf 3 none, Cond.fieldLink RX8 7 "PrefixLeaderModel" "many" "[I"]
def wsX8_spans_r2 : List Cond := [Cond.fieldLink RX8 13 "PrefixLeaderModel" "address" "[J", Cond.fieldLink RX8 17 "PrefixLeaderModel" "bits" "[I", Cond.methodLink RX8 102 yX8_size, Cond.static yX8_size, Cond.code yX8_size cX8_size 1 (some .long), Cond.methodLink RX8 151 yX8_leads_, Cond.instanceMethod yX8_leads_, Cond.selects RX8 yX8_leads_ yX8_leads_, Cond.code yX8_leads_ cX8_leads_ 8 (some .int), Cond.methodLink RX8 134 yX8_leads, Cond.instanceMethod yX8_leads, Cond.selects RX8 yX8_leads yX8_leads, Cond.code yX8_leads cX8_leads 5 (some .int), Cond.fieldLink RX8 20 "PrefixLeaderModel" "goal" "[I", Cond.methodLink RX8 130 yX8_best, Cond.instanceMethod yX8_best, Cond.selects RX8 yX8_best yX8_best, Cond.code yX8_best cX8_best 6 (some .int), Cond.methodLink RX8 126 yX8_begins, Cond.static yX8_begins, Cond.code yX8_begins cX8_begins 5 (some .boolean)]
def wsX8_spans : List Cond := .code yX8_spans cX8_spans 2 (some .int) :: ((wsX8_spans_r1 ++ wsX8_spans_r2) ++ wsX80)
def wsX8_span_r1 : List Cond := [Cond.constantLong RX8 124 (-1), Cond.fieldLink RX8 139 "PrefixLeaderModel" "spanMany" "I", Cond.fieldLink RX8 23 "PrefixLeaderModel" "from" "[J", Cond.fieldLink RX8 26 "PrefixLeaderModel" "led" "[I", Cond.methodLink RX8 109 yX8_isBook, Cond.static yX8_isBook, Cond.initialized RX8, Cond.code yX8_isBook cX8_isBook 1 (some .boolean), Cond.methodLink RX8 92 yX8_lies, Cond.static yX8_lies, Cond.code yX8_lies cX8_lies 3 (some .boolean), Cond.methodLink RX8 154 yX8_makeSpans, Cond.instanceMethod yX8_makeSpans, Cond.selects RX8 yX8_makeSpans yX8_makeSpans, Cond.code yX8_makeSpans cX8_makeSpans 7 none, Cond.methodLink RX8 143 yX8_cuts, Cond.instanceMethod yX8_cuts, Cond.selects RX8 yX8_cuts yX8_cuts, Cond.code yX8_cuts cX8_cuts 5 none, Cond.constantLong RX8 137 (4294967296), Cond.methodLink RX8 147 yX8_cutsOf, Cond.instanceMethod yX8_cutsOf, Cond.selects RX8 yX8_cutsOf yX8_cutsOf, Cond.code yX8_cutsOf cX8_cutsOf 3 none]
def wsX8_span_r2 : List Cond := [Cond.fieldLink RX8 7 "PrefixLeaderModel" "many" "[I", Cond.fieldLink RX8 13 "PrefixLeaderModel" "address" "[J", Cond.fieldLink RX8 17 "PrefixLeaderModel" "bits" "[I", Cond.methodLink RX8 102 yX8_size, Cond.static yX8_size, Cond.code yX8_size cX8_size 1 (some .long), Cond.methodLink RX8 151 yX8_leads_, Cond.instanceMethod yX8_leads_, Cond.selects RX8 yX8_leads_ yX8_leads_, Cond.code yX8_leads_ cX8_leads_ 8 (some .int), Cond.methodLink RX8 134 yX8_leads, Cond.instanceMethod yX8_leads, Cond.selects RX8 yX8_leads yX8_leads, Cond.code yX8_leads cX8_leads 5 (some .int), Cond.fieldLink RX8 20 "PrefixLeaderModel" "goal" "[I", Cond.methodLink RX8 130 yX8_best, Cond.instanceMethod yX8_best, Cond.selects RX8 yX8_best yX8_best, Cond.code yX8_best cX8_best 6 (some .int), Cond.methodLink RX8 126 yX8_begins, Cond.static yX8_begins, Cond.code yX8_begins cX8_begins 5 (some .boolean), Cond.methodLink RX8 157 yX8_end, Cond.instanceMethod yX8_end]
def wsX8_span_r3 : List Cond := [Cond.selects RX8 yX8_end yX8_end, Cond.code yX8_end cX8_end 2 (some .long)]
def wsX8_span : List Cond := .code yX8_span cX8_span 4 (some .long) :: ((wsX8_span_r1 ++ (wsX8_span_r2 ++ wsX8_span_r3)) ++ wsX80)
def wsX8_share_r1 : List Cond := [Cond.constantLong RX8 124 (-1), Cond.fieldLink RX8 139 "PrefixLeaderModel" "spanMany" "I", Cond.fieldLink RX8 26 "PrefixLeaderModel" "led" "[I", Cond.fieldLink RX8 23 "PrefixLeaderModel" "from" "[J", Cond.methodLink RX8 109 yX8_isBook, Cond.static yX8_isBook, Cond.initialized RX8, Cond.code yX8_isBook cX8_isBook 1 (some .boolean), Cond.methodLink RX8 92 yX8_lies, Cond.static yX8_lies, Cond.code yX8_lies cX8_lies 3 (some .boolean), Cond.methodLink RX8 154 yX8_makeSpans, Cond.instanceMethod yX8_makeSpans, Cond.selects RX8 yX8_makeSpans yX8_makeSpans, Cond.code yX8_makeSpans cX8_makeSpans 7 none, Cond.methodLink RX8 143 yX8_cuts, Cond.instanceMethod yX8_cuts, Cond.selects RX8 yX8_cuts yX8_cuts, Cond.code yX8_cuts cX8_cuts 5 none, Cond.constantLong RX8 137 (4294967296), Cond.methodLink RX8 147 yX8_cutsOf, Cond.instanceMethod yX8_cutsOf, Cond.selects RX8 yX8_cutsOf yX8_cutsOf, Cond.code yX8_cutsOf cX8_cutsOf 3 none]
def wsX8_share_r2 : List Cond := [Cond.fieldLink RX8 7 "PrefixLeaderModel" "many" "[I", Cond.fieldLink RX8 13 "PrefixLeaderModel" "address" "[J", Cond.fieldLink RX8 17 "PrefixLeaderModel" "bits" "[I", Cond.methodLink RX8 102 yX8_size, Cond.static yX8_size, Cond.code yX8_size cX8_size 1 (some .long), Cond.methodLink RX8 151 yX8_leads_, Cond.instanceMethod yX8_leads_, Cond.selects RX8 yX8_leads_ yX8_leads_, Cond.code yX8_leads_ cX8_leads_ 8 (some .int), Cond.methodLink RX8 134 yX8_leads, Cond.instanceMethod yX8_leads, Cond.selects RX8 yX8_leads yX8_leads, Cond.code yX8_leads cX8_leads 5 (some .int), Cond.fieldLink RX8 20 "PrefixLeaderModel" "goal" "[I", Cond.methodLink RX8 130 yX8_best, Cond.instanceMethod yX8_best, Cond.selects RX8 yX8_best yX8_best, Cond.code yX8_best cX8_best 6 (some .int), Cond.methodLink RX8 126 yX8_begins, Cond.static yX8_begins, Cond.code yX8_begins cX8_begins 5 (some .boolean), Cond.methodLink RX8 157 yX8_end, Cond.instanceMethod yX8_end]
def wsX8_share_r3 : List Cond := [Cond.selects RX8 yX8_end yX8_end, Cond.code yX8_end cX8_end 2 (some .long)]
def wsX8_share : List Cond := .code yX8_share cX8_share 6 (some .long) :: ((wsX8_share_r1 ++ (wsX8_share_r2 ++ wsX8_share_r3)) ++ wsX80)
def wsX8_differ_r1 : List Cond := [Cond.constantLong RX8 124 (-1), Cond.fieldLink RX8 139 "PrefixLeaderModel" "spanMany" "I", Cond.fieldLink RX8 26 "PrefixLeaderModel" "led" "[I", Cond.fieldLink RX8 23 "PrefixLeaderModel" "from" "[J", Cond.methodLink RX8 109 yX8_isBook, Cond.static yX8_isBook, Cond.initialized RX8, Cond.code yX8_isBook cX8_isBook 1 (some .boolean), Cond.methodLink RX8 92 yX8_lies, Cond.static yX8_lies, Cond.code yX8_lies cX8_lies 3 (some .boolean), Cond.methodLink RX8 154 yX8_makeSpans, Cond.instanceMethod yX8_makeSpans, Cond.selects RX8 yX8_makeSpans yX8_makeSpans, Cond.code yX8_makeSpans cX8_makeSpans 7 none, Cond.methodLink RX8 143 yX8_cuts, Cond.instanceMethod yX8_cuts, Cond.selects RX8 yX8_cuts yX8_cuts, Cond.code yX8_cuts cX8_cuts 5 none, Cond.constantLong RX8 137 (4294967296), Cond.methodLink RX8 147 yX8_cutsOf, Cond.instanceMethod yX8_cutsOf, Cond.selects RX8 yX8_cutsOf yX8_cutsOf, Cond.code yX8_cutsOf cX8_cutsOf 3 none]
def wsX8_differ_r2 : List Cond := [Cond.fieldLink RX8 7 "PrefixLeaderModel" "many" "[I", Cond.fieldLink RX8 13 "PrefixLeaderModel" "address" "[J", Cond.fieldLink RX8 17 "PrefixLeaderModel" "bits" "[I", Cond.methodLink RX8 102 yX8_size, Cond.static yX8_size, Cond.code yX8_size cX8_size 1 (some .long), Cond.methodLink RX8 151 yX8_leads_, Cond.instanceMethod yX8_leads_, Cond.selects RX8 yX8_leads_ yX8_leads_, Cond.code yX8_leads_ cX8_leads_ 8 (some .int), Cond.methodLink RX8 134 yX8_leads, Cond.instanceMethod yX8_leads, Cond.selects RX8 yX8_leads yX8_leads, Cond.code yX8_leads cX8_leads 5 (some .int), Cond.fieldLink RX8 20 "PrefixLeaderModel" "goal" "[I", Cond.methodLink RX8 130 yX8_best, Cond.instanceMethod yX8_best, Cond.selects RX8 yX8_best yX8_best, Cond.code yX8_best cX8_best 6 (some .int), Cond.methodLink RX8 126 yX8_begins, Cond.static yX8_begins, Cond.code yX8_begins cX8_begins 5 (some .boolean), Cond.methodLink RX8 157 yX8_end, Cond.instanceMethod yX8_end]
def wsX8_differ_r3 : List Cond := [Cond.selects RX8 yX8_end yX8_end, Cond.code yX8_end cX8_end 2 (some .long)]
def wsX8_differ : List Cond := .code yX8_differ cX8_differ 9 (some .long) :: ((wsX8_differ_r1 ++ (wsX8_differ_r2 ++ wsX8_differ_r3)) ++ wsX80)
def wsX8_same_r1 : List Cond := [Cond.methodLink RX8 109 yX8_isBook, Cond.static yX8_isBook, Cond.initialized RX8, Cond.code yX8_isBook cX8_isBook 1 (some .boolean), Cond.methodLink RX8 92 yX8_lies, Cond.static yX8_lies, Cond.code yX8_lies cX8_lies 3 (some .boolean), Cond.methodLink RX8 160 yX8_differ, Cond.instanceMethod yX8_differ, Cond.selects RX8 yX8_differ yX8_differ, Cond.code yX8_differ cX8_differ 9 (some .long), Cond.constantLong RX8 124 (-1), Cond.fieldLink RX8 139 "PrefixLeaderModel" "spanMany" "I", Cond.fieldLink RX8 26 "PrefixLeaderModel" "led" "[I", Cond.fieldLink RX8 23 "PrefixLeaderModel" "from" "[J", Cond.methodLink RX8 154 yX8_makeSpans, Cond.instanceMethod yX8_makeSpans, Cond.selects RX8 yX8_makeSpans yX8_makeSpans, Cond.code yX8_makeSpans cX8_makeSpans 7 none, Cond.methodLink RX8 143 yX8_cuts, Cond.instanceMethod yX8_cuts, Cond.selects RX8 yX8_cuts yX8_cuts, Cond.code yX8_cuts cX8_cuts 5 none, Cond.constantLong RX8 137 (4294967296)]
def wsX8_same_r2 : List Cond := [Cond.methodLink RX8 147 yX8_cutsOf, Cond.instanceMethod yX8_cutsOf, Cond.selects RX8 yX8_cutsOf yX8_cutsOf, Cond.code yX8_cutsOf cX8_cutsOf 3 none, Cond.fieldLink RX8 7 "PrefixLeaderModel" "many" "[I", Cond.fieldLink RX8 13 "PrefixLeaderModel" "address" "[J", Cond.fieldLink RX8 17 "PrefixLeaderModel" "bits" "[I", Cond.methodLink RX8 102 yX8_size, Cond.static yX8_size, Cond.code yX8_size cX8_size 1 (some .long), Cond.methodLink RX8 151 yX8_leads_, Cond.instanceMethod yX8_leads_, Cond.selects RX8 yX8_leads_ yX8_leads_, Cond.code yX8_leads_ cX8_leads_ 8 (some .int), Cond.methodLink RX8 134 yX8_leads, Cond.instanceMethod yX8_leads, Cond.selects RX8 yX8_leads yX8_leads, Cond.code yX8_leads cX8_leads 5 (some .int), Cond.fieldLink RX8 20 "PrefixLeaderModel" "goal" "[I", Cond.methodLink RX8 130 yX8_best, Cond.instanceMethod yX8_best, Cond.selects RX8 yX8_best yX8_best, Cond.code yX8_best cX8_best 6 (some .int), Cond.methodLink RX8 126 yX8_begins]
def wsX8_same_r3 : List Cond := [Cond.static yX8_begins, Cond.code yX8_begins cX8_begins 5 (some .boolean), Cond.methodLink RX8 157 yX8_end, Cond.instanceMethod yX8_end, Cond.selects RX8 yX8_end yX8_end, Cond.code yX8_end cX8_end 2 (some .long)]
def wsX8_same : List Cond := .code yX8_same cX8_same 3 (some .int) :: ((wsX8_same_r1 ++ (wsX8_same_r2 ++ wsX8_same_r3)) ++ wsX80)
def wsX8_spanOf : List Cond := .code yX8_spanOf cX8_spanOf 4 (some .int) :: ([.methodLink RX8 157 yX8_end, .instanceMethod yX8_end, .selects RX8 yX8_end yX8_end, .initialized RX8, .code yX8_end cX8_end 2 (some .long), .fieldLink RX8 139 "PrefixLeaderModel" "spanMany" "I", .fieldLink RX8 23 "PrefixLeaderModel" "from" "[J", .constantLong RX8 137 (4294967296)] ++ wsX80)
def wsX8_isOne : List Cond := .code yX8_isOne cX8_isOne 4 (some .boolean) :: ([.methodLink RX8 164 yX8_spanOf, .instanceMethod yX8_spanOf, .selects RX8 yX8_spanOf yX8_spanOf, .initialized RX8, .code yX8_spanOf cX8_spanOf 4 (some .int), .methodLink RX8 157 yX8_end, .instanceMethod yX8_end, .selects RX8 yX8_end yX8_end, .code yX8_end cX8_end 2 (some .long), .fieldLink RX8 139 "PrefixLeaderModel" "spanMany" "I", .fieldLink RX8 23 "PrefixLeaderModel" "from" "[J", .constantLong RX8 137 (4294967296), .methodLink RX8 102 yX8_size, .static yX8_size, .code yX8_size cX8_size 1 (some .long)] ++ wsX80)
def wsX8_mixedAt : List Cond := .code yX8_mixedAt cX8_mixedAt 5 (some .int) :: ([.fieldLink RX8 29 "PrefixLeaderModel" "mixedMany" "[I", .fieldLink RX8 32 "PrefixLeaderModel" "mixed" "[J"] ++ wsX80)
def wsX8_setOf_r1 : List Cond := [Cond.fieldLink RX8 26 "PrefixLeaderModel" "led" "[I", Cond.fieldLink RX8 35 "PrefixLeaderModel" "mixedSet" "[I", Cond.methodLink RX8 168 yX8_isOne, Cond.instanceMethod yX8_isOne, Cond.selects RX8 yX8_isOne yX8_isOne, Cond.initialized RX8, Cond.code yX8_isOne cX8_isOne 4 (some .boolean), Cond.methodLink RX8 164 yX8_spanOf, Cond.instanceMethod yX8_spanOf, Cond.selects RX8 yX8_spanOf yX8_spanOf, Cond.code yX8_spanOf cX8_spanOf 4 (some .int), Cond.methodLink RX8 157 yX8_end, Cond.instanceMethod yX8_end, Cond.selects RX8 yX8_end yX8_end, Cond.code yX8_end cX8_end 2 (some .long), Cond.fieldLink RX8 139 "PrefixLeaderModel" "spanMany" "I", Cond.fieldLink RX8 23 "PrefixLeaderModel" "from" "[J", Cond.constantLong RX8 137 (4294967296), Cond.methodLink RX8 102 yX8_size, Cond.static yX8_size, Cond.code yX8_size cX8_size 1 (some .long), Cond.methodLink RX8 172 yX8_mixedAt, Cond.instanceMethod yX8_mixedAt, Cond.selects RX8 yX8_mixedAt yX8_mixedAt]
def wsX8_setOf_r2 : List Cond := [Cond.code yX8_mixedAt cX8_mixedAt 5 (some .int), Cond.fieldLink RX8 29 "PrefixLeaderModel" "mixedMany" "[I", Cond.fieldLink RX8 32 "PrefixLeaderModel" "mixed" "[J"]
def wsX8_setOf : List Cond := .code yX8_setOf cX8_setOf 4 (some .int) :: ((wsX8_setOf_r1 ++ wsX8_setOf_r2) ++ wsX80)
def wsX8_makeSets_r1 : List Cond := [Cond.fieldLink RX8 29 "PrefixLeaderModel" "mixedMany" "[I", Cond.fieldLink RX8 139 "PrefixLeaderModel" "spanMany" "I", Cond.fieldLink RX8 23 "PrefixLeaderModel" "from" "[J", Cond.fieldLink RX8 32 "PrefixLeaderModel" "mixed" "[J", Cond.fieldLink RX8 35 "PrefixLeaderModel" "mixedSet" "[I", Cond.methodLink RX8 102 yX8_size, Cond.static yX8_size, Cond.initialized RX8, Cond.code yX8_size cX8_size 1 (some .long), Cond.methodLink RX8 172 yX8_mixedAt, Cond.instanceMethod yX8_mixedAt, Cond.selects RX8 yX8_mixedAt yX8_mixedAt, Cond.code yX8_mixedAt cX8_mixedAt 5 (some .int), Cond.methodLink RX8 176 yX8_setOf, Cond.instanceMethod yX8_setOf, Cond.selects RX8 yX8_setOf yX8_setOf, Cond.code yX8_setOf cX8_setOf 4 (some .int), Cond.fieldLink RX8 26 "PrefixLeaderModel" "led" "[I", Cond.methodLink RX8 168 yX8_isOne, Cond.instanceMethod yX8_isOne, Cond.selects RX8 yX8_isOne yX8_isOne, Cond.code yX8_isOne cX8_isOne 4 (some .boolean), Cond.methodLink RX8 164 yX8_spanOf, Cond.instanceMethod yX8_spanOf]
def wsX8_makeSets_r2 : List Cond := [Cond.selects RX8 yX8_spanOf yX8_spanOf, Cond.code yX8_spanOf cX8_spanOf 4 (some .int), Cond.methodLink RX8 157 yX8_end, Cond.instanceMethod yX8_end, Cond.selects RX8 yX8_end yX8_end, Cond.code yX8_end cX8_end 2 (some .long), Cond.constantLong RX8 137 (4294967296)]
def wsX8_makeSets : List Cond := .code yX8_makeSets cX8_makeSets 8 none :: ((wsX8_makeSets_r1 ++ wsX8_makeSets_r2) ++ wsX80)
def wsX8_set_r1 : List Cond := [Cond.methodLink RX8 109 yX8_isBook, Cond.static yX8_isBook, Cond.initialized RX8, Cond.code yX8_isBook cX8_isBook 1 (some .boolean), Cond.methodLink RX8 92 yX8_lies, Cond.static yX8_lies, Cond.code yX8_lies cX8_lies 3 (some .boolean), Cond.methodLink RX8 113 yX8_isBeginning, Cond.static yX8_isBeginning, Cond.code yX8_isBeginning cX8_isBeginning 2 (some .boolean), Cond.methodLink RX8 98 yX8_number, Cond.static yX8_number, Cond.code yX8_number cX8_number 1 (some .long), Cond.constantLong RX8 96 (4294967295), Cond.methodLink RX8 102 yX8_size, Cond.static yX8_size, Cond.code yX8_size cX8_size 1 (some .long), Cond.methodLink RX8 154 yX8_makeSpans, Cond.instanceMethod yX8_makeSpans, Cond.selects RX8 yX8_makeSpans yX8_makeSpans, Cond.code yX8_makeSpans cX8_makeSpans 7 none, Cond.fieldLink RX8 139 "PrefixLeaderModel" "spanMany" "I", Cond.fieldLink RX8 23 "PrefixLeaderModel" "from" "[J", Cond.fieldLink RX8 26 "PrefixLeaderModel" "led" "[I"]
def wsX8_set_r2 : List Cond := [Cond.methodLink RX8 143 yX8_cuts, Cond.instanceMethod yX8_cuts, Cond.selects RX8 yX8_cuts yX8_cuts, Cond.code yX8_cuts cX8_cuts 5 none, Cond.constantLong RX8 137 (4294967296), Cond.methodLink RX8 147 yX8_cutsOf, Cond.instanceMethod yX8_cutsOf, Cond.selects RX8 yX8_cutsOf yX8_cutsOf, Cond.code yX8_cutsOf cX8_cutsOf 3 none, Cond.fieldLink RX8 7 "PrefixLeaderModel" "many" "[I", Cond.fieldLink RX8 13 "PrefixLeaderModel" "address" "[J", Cond.fieldLink RX8 17 "PrefixLeaderModel" "bits" "[I", Cond.methodLink RX8 151 yX8_leads_, Cond.instanceMethod yX8_leads_, Cond.selects RX8 yX8_leads_ yX8_leads_, Cond.code yX8_leads_ cX8_leads_ 8 (some .int), Cond.methodLink RX8 134 yX8_leads, Cond.instanceMethod yX8_leads, Cond.selects RX8 yX8_leads yX8_leads, Cond.code yX8_leads cX8_leads 5 (some .int), Cond.fieldLink RX8 20 "PrefixLeaderModel" "goal" "[I", Cond.methodLink RX8 130 yX8_best, Cond.instanceMethod yX8_best, Cond.selects RX8 yX8_best yX8_best]
def wsX8_set_r3 : List Cond := [Cond.code yX8_best cX8_best 6 (some .int), Cond.methodLink RX8 126 yX8_begins, Cond.static yX8_begins, Cond.code yX8_begins cX8_begins 5 (some .boolean), Cond.methodLink RX8 179 yX8_makeSets, Cond.instanceMethod yX8_makeSets, Cond.selects RX8 yX8_makeSets yX8_makeSets, Cond.code yX8_makeSets cX8_makeSets 8 none, Cond.fieldLink RX8 29 "PrefixLeaderModel" "mixedMany" "[I", Cond.fieldLink RX8 32 "PrefixLeaderModel" "mixed" "[J", Cond.fieldLink RX8 35 "PrefixLeaderModel" "mixedSet" "[I", Cond.methodLink RX8 172 yX8_mixedAt, Cond.instanceMethod yX8_mixedAt, Cond.selects RX8 yX8_mixedAt yX8_mixedAt, Cond.code yX8_mixedAt cX8_mixedAt 5 (some .int), Cond.methodLink RX8 176 yX8_setOf, Cond.instanceMethod yX8_setOf, Cond.selects RX8 yX8_setOf yX8_setOf, Cond.code yX8_setOf cX8_setOf 4 (some .int), Cond.methodLink RX8 168 yX8_isOne, Cond.instanceMethod yX8_isOne, Cond.selects RX8 yX8_isOne yX8_isOne, Cond.code yX8_isOne cX8_isOne 4 (some .boolean), Cond.methodLink RX8 164 yX8_spanOf]
def wsX8_set_r4 : List Cond := [Cond.instanceMethod yX8_spanOf, Cond.selects RX8 yX8_spanOf yX8_spanOf, Cond.code yX8_spanOf cX8_spanOf 4 (some .int), Cond.methodLink RX8 157 yX8_end, Cond.instanceMethod yX8_end, Cond.selects RX8 yX8_end yX8_end, Cond.code yX8_end cX8_end 2 (some .long)]
def wsX8_set : List Cond := .code yX8_set cX8_set 4 (some .int) :: ((wsX8_set_r1 ++ (wsX8_set_r2 ++ (wsX8_set_r3 ++ wsX8_set_r4))) ++ wsX80)
def wsX8_lowest : List Cond := .code yX8_lowest cX8_lowest 2 (some .int) :: ([])
def wsX8_makeLeast_r1 : List Cond := [Cond.fieldLink RX8 38 "PrefixLeaderModel" "here" "[J", Cond.fieldLink RX8 41 "PrefixLeaderModel" "comes" "[I", Cond.fieldLink RX8 50 "PrefixLeaderModel" "madeAddress" "[J", Cond.fieldLink RX8 53 "PrefixLeaderModel" "madeBits" "[I", Cond.fieldLink RX8 56 "PrefixLeaderModel" "madeGoal" "[I", Cond.fieldLink RX8 44 "PrefixLeaderModel" "next" "[J", Cond.fieldLink RX8 47 "PrefixLeaderModel" "nextComes" "[I", Cond.fieldLink RX8 26 "PrefixLeaderModel" "led" "[I", Cond.fieldLink RX8 186 "PrefixLeaderModel" "madeMany" "I", Cond.methodLink RX8 179 yX8_makeSets, Cond.instanceMethod yX8_makeSets, Cond.selects RX8 yX8_makeSets yX8_makeSets, Cond.initialized RX8, Cond.code yX8_makeSets cX8_makeSets 8 none, Cond.fieldLink RX8 29 "PrefixLeaderModel" "mixedMany" "[I", Cond.fieldLink RX8 139 "PrefixLeaderModel" "spanMany" "I", Cond.fieldLink RX8 23 "PrefixLeaderModel" "from" "[J", Cond.fieldLink RX8 32 "PrefixLeaderModel" "mixed" "[J", Cond.fieldLink RX8 35 "PrefixLeaderModel" "mixedSet" "[I", Cond.methodLink RX8 102 yX8_size, Cond.static yX8_size, Cond.code yX8_size cX8_size 1 (some .long), Cond.methodLink RX8 172 yX8_mixedAt, Cond.instanceMethod yX8_mixedAt]
def wsX8_makeLeast_r2 : List Cond := [Cond.selects RX8 yX8_mixedAt yX8_mixedAt, Cond.code yX8_mixedAt cX8_mixedAt 5 (some .int), Cond.methodLink RX8 176 yX8_setOf, Cond.instanceMethod yX8_setOf, Cond.selects RX8 yX8_setOf yX8_setOf, Cond.code yX8_setOf cX8_setOf 4 (some .int), Cond.methodLink RX8 168 yX8_isOne, Cond.instanceMethod yX8_isOne, Cond.selects RX8 yX8_isOne yX8_isOne, Cond.code yX8_isOne cX8_isOne 4 (some .boolean), Cond.methodLink RX8 164 yX8_spanOf, Cond.instanceMethod yX8_spanOf, Cond.selects RX8 yX8_spanOf yX8_spanOf, Cond.code yX8_spanOf cX8_spanOf 4 (some .int), Cond.methodLink RX8 157 yX8_end, Cond.instanceMethod yX8_end, Cond.selects RX8 yX8_end yX8_end, Cond.code yX8_end cX8_end 2 (some .long), Cond.constantLong RX8 137 (4294967296), Cond.methodLink RX8 182 yX8_lowest, Cond.static yX8_lowest, Cond.code yX8_lowest cX8_lowest 2 (some .int)]
def wsX8_makeLeast : List Cond := .code yX8_makeLeast cX8_makeLeast 8 (some .int) :: ((wsX8_makeLeast_r1 ++ wsX8_makeLeast_r2) ++ wsX80)
def wsX8_becomes : List Cond := .code yX8_becomes cX8_becomes 3 (some .int) :: ([.fieldLink RX8 7 "PrefixLeaderModel" "many" "[I", .fieldLink RX8 186 "PrefixLeaderModel" "madeMany" "I", .fieldLink RX8 50 "PrefixLeaderModel" "madeAddress" "[J", .fieldLink RX8 53 "PrefixLeaderModel" "madeBits" "[I", .fieldLink RX8 56 "PrefixLeaderModel" "madeGoal" "[I", .methodLink RX8 121 yX8_comes, .instanceMethod yX8_comes, .selects RX8 yX8_comes yX8_comes, .initialized RX8, .code yX8_comes cX8_comes 7 none, .fieldLink RX8 13 "PrefixLeaderModel" "address" "[J", .fieldLink RX8 17 "PrefixLeaderModel" "bits" "[I", .fieldLink RX8 20 "PrefixLeaderModel" "goal" "[I", .methodLink RX8 105 yX8_moves, .instanceMethod yX8_moves, .selects RX8 yX8_moves yX8_moves, .code yX8_moves cX8_moves 4 none] ++ wsX80)
def wsX8_least_r1 : List Cond := [Cond.methodLink RX8 109 yX8_isBook, Cond.static yX8_isBook, Cond.initialized RX8, Cond.code yX8_isBook cX8_isBook 1 (some .boolean), Cond.methodLink RX8 92 yX8_lies, Cond.static yX8_lies, Cond.code yX8_lies cX8_lies 3 (some .boolean), Cond.methodLink RX8 154 yX8_makeSpans, Cond.instanceMethod yX8_makeSpans, Cond.selects RX8 yX8_makeSpans yX8_makeSpans, Cond.code yX8_makeSpans cX8_makeSpans 7 none, Cond.fieldLink RX8 139 "PrefixLeaderModel" "spanMany" "I", Cond.fieldLink RX8 23 "PrefixLeaderModel" "from" "[J", Cond.fieldLink RX8 26 "PrefixLeaderModel" "led" "[I", Cond.methodLink RX8 143 yX8_cuts, Cond.instanceMethod yX8_cuts, Cond.selects RX8 yX8_cuts yX8_cuts, Cond.code yX8_cuts cX8_cuts 5 none, Cond.constantLong RX8 137 (4294967296), Cond.methodLink RX8 147 yX8_cutsOf, Cond.instanceMethod yX8_cutsOf, Cond.selects RX8 yX8_cutsOf yX8_cutsOf, Cond.code yX8_cutsOf cX8_cutsOf 3 none, Cond.fieldLink RX8 7 "PrefixLeaderModel" "many" "[I"]
def wsX8_least_r2 : List Cond := [Cond.fieldLink RX8 13 "PrefixLeaderModel" "address" "[J", Cond.fieldLink RX8 17 "PrefixLeaderModel" "bits" "[I", Cond.methodLink RX8 102 yX8_size, Cond.static yX8_size, Cond.code yX8_size cX8_size 1 (some .long), Cond.methodLink RX8 151 yX8_leads_, Cond.instanceMethod yX8_leads_, Cond.selects RX8 yX8_leads_ yX8_leads_, Cond.code yX8_leads_ cX8_leads_ 8 (some .int), Cond.methodLink RX8 134 yX8_leads, Cond.instanceMethod yX8_leads, Cond.selects RX8 yX8_leads yX8_leads, Cond.code yX8_leads cX8_leads 5 (some .int), Cond.fieldLink RX8 20 "PrefixLeaderModel" "goal" "[I", Cond.methodLink RX8 130 yX8_best, Cond.instanceMethod yX8_best, Cond.selects RX8 yX8_best yX8_best, Cond.code yX8_best cX8_best 6 (some .int), Cond.methodLink RX8 126 yX8_begins, Cond.static yX8_begins, Cond.code yX8_begins cX8_begins 5 (some .boolean), Cond.methodLink RX8 189 yX8_makeLeast, Cond.instanceMethod yX8_makeLeast, Cond.selects RX8 yX8_makeLeast yX8_makeLeast]
def wsX8_least_r3 : List Cond := [Cond.code yX8_makeLeast cX8_makeLeast 8 (some .int), Cond.fieldLink RX8 38 "PrefixLeaderModel" "here" "[J", Cond.fieldLink RX8 41 "PrefixLeaderModel" "comes" "[I", Cond.fieldLink RX8 50 "PrefixLeaderModel" "madeAddress" "[J", Cond.fieldLink RX8 53 "PrefixLeaderModel" "madeBits" "[I", Cond.fieldLink RX8 56 "PrefixLeaderModel" "madeGoal" "[I", Cond.fieldLink RX8 44 "PrefixLeaderModel" "next" "[J", Cond.fieldLink RX8 47 "PrefixLeaderModel" "nextComes" "[I", Cond.fieldLink RX8 186 "PrefixLeaderModel" "madeMany" "I", Cond.methodLink RX8 179 yX8_makeSets, Cond.instanceMethod yX8_makeSets, Cond.selects RX8 yX8_makeSets yX8_makeSets, Cond.code yX8_makeSets cX8_makeSets 8 none, Cond.fieldLink RX8 29 "PrefixLeaderModel" "mixedMany" "[I", Cond.fieldLink RX8 32 "PrefixLeaderModel" "mixed" "[J", Cond.fieldLink RX8 35 "PrefixLeaderModel" "mixedSet" "[I", Cond.methodLink RX8 172 yX8_mixedAt, Cond.instanceMethod yX8_mixedAt, Cond.selects RX8 yX8_mixedAt yX8_mixedAt, Cond.code yX8_mixedAt cX8_mixedAt 5 (some .int), Cond.methodLink RX8 176 yX8_setOf, Cond.instanceMethod yX8_setOf, Cond.selects RX8 yX8_setOf yX8_setOf, Cond.code yX8_setOf cX8_setOf 4 (some .int)]
def wsX8_least_r4 : List Cond := [Cond.methodLink RX8 168 yX8_isOne, Cond.instanceMethod yX8_isOne, Cond.selects RX8 yX8_isOne yX8_isOne, Cond.code yX8_isOne cX8_isOne 4 (some .boolean), Cond.methodLink RX8 164 yX8_spanOf, Cond.instanceMethod yX8_spanOf, Cond.selects RX8 yX8_spanOf yX8_spanOf, Cond.code yX8_spanOf cX8_spanOf 4 (some .int), Cond.methodLink RX8 157 yX8_end, Cond.instanceMethod yX8_end, Cond.selects RX8 yX8_end yX8_end, Cond.code yX8_end cX8_end 2 (some .long), Cond.methodLink RX8 182 yX8_lowest, Cond.static yX8_lowest, Cond.code yX8_lowest cX8_lowest 2 (some .int), Cond.methodLink RX8 193 yX8_becomes, Cond.instanceMethod yX8_becomes, Cond.selects RX8 yX8_becomes yX8_becomes, Cond.code yX8_becomes cX8_becomes 3 (some .int), Cond.methodLink RX8 121 yX8_comes, Cond.instanceMethod yX8_comes, Cond.selects RX8 yX8_comes yX8_comes, Cond.code yX8_comes cX8_comes 7 none, Cond.methodLink RX8 105 yX8_moves]
def wsX8_least_r5 : List Cond := [Cond.instanceMethod yX8_moves, Cond.selects RX8 yX8_moves yX8_moves, Cond.code yX8_moves cX8_moves 4 none]
def wsX8_least : List Cond := .code yX8_least cX8_least 4 (some .int) :: ((wsX8_least_r1 ++ (wsX8_least_r2 ++ (wsX8_least_r3 ++ (wsX8_least_r4 ++ wsX8_least_r5)))) ++ wsX80)
def wsX8_combine_r1 : List Cond := [Cond.methodLink RX8 92 yX8_lies, Cond.static yX8_lies, Cond.initialized RX8, Cond.code yX8_lies cX8_lies 3 (some .boolean), Cond.methodLink RX8 109 yX8_isBook, Cond.static yX8_isBook, Cond.code yX8_isBook cX8_isBook 1 (some .boolean), Cond.methodLink RX8 154 yX8_makeSpans, Cond.instanceMethod yX8_makeSpans, Cond.selects RX8 yX8_makeSpans yX8_makeSpans, Cond.code yX8_makeSpans cX8_makeSpans 7 none, Cond.fieldLink RX8 139 "PrefixLeaderModel" "spanMany" "I", Cond.fieldLink RX8 23 "PrefixLeaderModel" "from" "[J", Cond.fieldLink RX8 26 "PrefixLeaderModel" "led" "[I", Cond.methodLink RX8 143 yX8_cuts, Cond.instanceMethod yX8_cuts, Cond.selects RX8 yX8_cuts yX8_cuts, Cond.code yX8_cuts cX8_cuts 5 none, Cond.constantLong RX8 137 (4294967296), Cond.methodLink RX8 147 yX8_cutsOf, Cond.instanceMethod yX8_cutsOf, Cond.selects RX8 yX8_cutsOf yX8_cutsOf, Cond.code yX8_cutsOf cX8_cutsOf 3 none, Cond.fieldLink RX8 7 "PrefixLeaderModel" "many" "[I"]
def wsX8_combine_r2 : List Cond := [Cond.fieldLink RX8 13 "PrefixLeaderModel" "address" "[J", Cond.fieldLink RX8 17 "PrefixLeaderModel" "bits" "[I", Cond.methodLink RX8 102 yX8_size, Cond.static yX8_size, Cond.code yX8_size cX8_size 1 (some .long), Cond.methodLink RX8 151 yX8_leads_, Cond.instanceMethod yX8_leads_, Cond.selects RX8 yX8_leads_ yX8_leads_, Cond.code yX8_leads_ cX8_leads_ 8 (some .int), Cond.methodLink RX8 134 yX8_leads, Cond.instanceMethod yX8_leads, Cond.selects RX8 yX8_leads yX8_leads, Cond.code yX8_leads cX8_leads 5 (some .int), Cond.fieldLink RX8 20 "PrefixLeaderModel" "goal" "[I", Cond.methodLink RX8 130 yX8_best, Cond.instanceMethod yX8_best, Cond.selects RX8 yX8_best yX8_best, Cond.code yX8_best cX8_best 6 (some .int), Cond.methodLink RX8 126 yX8_begins, Cond.static yX8_begins, Cond.code yX8_begins cX8_begins 5 (some .boolean), Cond.methodLink RX8 189 yX8_makeLeast, Cond.instanceMethod yX8_makeLeast, Cond.selects RX8 yX8_makeLeast yX8_makeLeast]
def wsX8_combine_r3 : List Cond := [Cond.code yX8_makeLeast cX8_makeLeast 8 (some .int), Cond.fieldLink RX8 38 "PrefixLeaderModel" "here" "[J", Cond.fieldLink RX8 41 "PrefixLeaderModel" "comes" "[I", Cond.fieldLink RX8 50 "PrefixLeaderModel" "madeAddress" "[J", Cond.fieldLink RX8 53 "PrefixLeaderModel" "madeBits" "[I", Cond.fieldLink RX8 56 "PrefixLeaderModel" "madeGoal" "[I", Cond.fieldLink RX8 44 "PrefixLeaderModel" "next" "[J", Cond.fieldLink RX8 47 "PrefixLeaderModel" "nextComes" "[I", Cond.fieldLink RX8 186 "PrefixLeaderModel" "madeMany" "I", Cond.methodLink RX8 179 yX8_makeSets, Cond.instanceMethod yX8_makeSets, Cond.selects RX8 yX8_makeSets yX8_makeSets, Cond.code yX8_makeSets cX8_makeSets 8 none, Cond.fieldLink RX8 29 "PrefixLeaderModel" "mixedMany" "[I", Cond.fieldLink RX8 32 "PrefixLeaderModel" "mixed" "[J", Cond.fieldLink RX8 35 "PrefixLeaderModel" "mixedSet" "[I", Cond.methodLink RX8 172 yX8_mixedAt, Cond.instanceMethod yX8_mixedAt, Cond.selects RX8 yX8_mixedAt yX8_mixedAt, Cond.code yX8_mixedAt cX8_mixedAt 5 (some .int), Cond.methodLink RX8 176 yX8_setOf, Cond.instanceMethod yX8_setOf, Cond.selects RX8 yX8_setOf yX8_setOf, Cond.code yX8_setOf cX8_setOf 4 (some .int)]
def wsX8_combine_r4 : List Cond := [Cond.methodLink RX8 168 yX8_isOne, Cond.instanceMethod yX8_isOne, Cond.selects RX8 yX8_isOne yX8_isOne, Cond.code yX8_isOne cX8_isOne 4 (some .boolean), Cond.methodLink RX8 164 yX8_spanOf, Cond.instanceMethod yX8_spanOf, Cond.selects RX8 yX8_spanOf yX8_spanOf, Cond.code yX8_spanOf cX8_spanOf 4 (some .int), Cond.methodLink RX8 157 yX8_end, Cond.instanceMethod yX8_end, Cond.selects RX8 yX8_end yX8_end, Cond.code yX8_end cX8_end 2 (some .long), Cond.methodLink RX8 182 yX8_lowest, Cond.static yX8_lowest, Cond.code yX8_lowest cX8_lowest 2 (some .int), Cond.methodLink RX8 193 yX8_becomes, Cond.instanceMethod yX8_becomes, Cond.selects RX8 yX8_becomes yX8_becomes, Cond.code yX8_becomes cX8_becomes 3 (some .int), Cond.methodLink RX8 121 yX8_comes, Cond.instanceMethod yX8_comes, Cond.selects RX8 yX8_comes yX8_comes, Cond.code yX8_comes cX8_comes 7 none, Cond.methodLink RX8 105 yX8_moves]
def wsX8_combine_r5 : List Cond := [Cond.instanceMethod yX8_moves, Cond.selects RX8 yX8_moves yX8_moves, Cond.code yX8_moves cX8_moves 4 none]
def wsX8_combine : List Cond := .code yX8_combine cX8_combine 5 (some .int) :: ((wsX8_combine_r1 ++ (wsX8_combine_r2 ++ (wsX8_combine_r3 ++ (wsX8_combine_r4 ++ wsX8_combine_r5)))) ++ wsX80)
def wsX8_cover : List Cond := .code yX8_cover cX8_cover 8 (some .int) :: ([.fieldLink RX8 196 "PrefixLeaderModel" "pieces" "I", .fieldLink RX8 59 "PrefixLeaderModel" "pieceAddress" "[J", .fieldLink RX8 62 "PrefixLeaderModel" "pieceBits" "[I", .methodLink RX8 98 yX8_number, .static yX8_number, .initialized RX8, .code yX8_number cX8_number 1 (some .long), .constantLong RX8 96 (4294967295), .methodLink RX8 102 yX8_size, .static yX8_size, .code yX8_size cX8_size 1 (some .long)] ++ wsX80)
def wsX8_piece : List Cond := .code yX8_piece cX8_piece 3 (some .long) :: ([.fieldLink RX8 196 "PrefixLeaderModel" "pieces" "I", .constantLong RX8 124 (-1), .fieldLink RX8 59 "PrefixLeaderModel" "pieceAddress" "[J", .fieldLink RX8 62 "PrefixLeaderModel" "pieceBits" "[I", .methodLink RX8 92 yX8_lies, .static yX8_lies, .initialized RX8, .code yX8_lies cX8_lies 3 (some .boolean)] ++ wsX80)
def wsX8_step : List Cond := .code yX8_step cX8_step 6 none :: ([.fieldLink RX8 65 "PrefixLeaderModel" "stepKind" "[I", .fieldLink RX8 199 "PrefixLeaderModel" "stepMany" "I", .fieldLink RX8 68 "PrefixLeaderModel" "stepAddress" "[J", .fieldLink RX8 71 "PrefixLeaderModel" "stepBits" "[I", .fieldLink RX8 74 "PrefixLeaderModel" "stepGoal" "[I"] ++ wsX80)
def wsX8_way_r1 : List Cond := [Cond.fieldLink RX8 202 "PrefixLeaderModel" "hasWay" "Z", Cond.fieldLink RX8 199 "PrefixLeaderModel" "stepMany" "I", Cond.fieldLink RX8 7 "PrefixLeaderModel" "many" "[I", Cond.fieldLink RX8 13 "PrefixLeaderModel" "address" "[J", Cond.fieldLink RX8 17 "PrefixLeaderModel" "bits" "[I", Cond.fieldLink RX8 20 "PrefixLeaderModel" "goal" "[I", Cond.fieldLink RX8 209 "PrefixLeaderModel" "wayMany" "I", Cond.fieldLink RX8 77 "PrefixLeaderModel" "wayAddress" "[J", Cond.fieldLink RX8 80 "PrefixLeaderModel" "wayBits" "[I", Cond.fieldLink RX8 83 "PrefixLeaderModel" "wayGoal" "[I", Cond.methodLink RX8 109 yX8_isBook, Cond.static yX8_isBook, Cond.initialized RX8, Cond.code yX8_isBook cX8_isBook 1 (some .boolean), Cond.methodLink RX8 92 yX8_lies, Cond.static yX8_lies, Cond.code yX8_lies cX8_lies 3 (some .boolean), Cond.methodLink RX8 117 yX8_at, Cond.instanceMethod yX8_at, Cond.selects RX8 yX8_at yX8_at, Cond.code yX8_at cX8_at 6 (some .int), Cond.methodLink RX8 206 yX8_step, Cond.instanceMethod yX8_step, Cond.selects RX8 yX8_step yX8_step]
def wsX8_way_r2 : List Cond := [Cond.code yX8_step cX8_step 6 none, Cond.fieldLink RX8 65 "PrefixLeaderModel" "stepKind" "[I", Cond.fieldLink RX8 68 "PrefixLeaderModel" "stepAddress" "[J", Cond.fieldLink RX8 71 "PrefixLeaderModel" "stepBits" "[I", Cond.fieldLink RX8 74 "PrefixLeaderModel" "stepGoal" "[I"]
def wsX8_way : List Cond := .code yX8_way cX8_way 7 (some .int) :: ((wsX8_way_r1 ++ wsX8_way_r2) ++ wsX80)
def wsX8_step_ : List Cond := .code yX8_step_ cX8_step_ 3 (some .long) :: ([.fieldLink RX8 202 "PrefixLeaderModel" "hasWay" "Z", .fieldLink RX8 199 "PrefixLeaderModel" "stepMany" "I", .constantLong RX8 124 (-1), .fieldLink RX8 65 "PrefixLeaderModel" "stepKind" "[I", .fieldLink RX8 68 "PrefixLeaderModel" "stepAddress" "[J", .fieldLink RX8 71 "PrefixLeaderModel" "stepBits" "[I", .fieldLink RX8 74 "PrefixLeaderModel" "stepGoal" "[I", .methodLink RX8 92 yX8_lies, .static yX8_lies, .initialized RX8, .code yX8_lies cX8_lies 3 (some .boolean)] ++ wsX80)
def wsX8_done : List Cond := .code yX8_done cX8_done 7 (some .int) :: ([.fieldLink RX8 68 "PrefixLeaderModel" "stepAddress" "[J", .fieldLink RX8 71 "PrefixLeaderModel" "stepBits" "[I", .fieldLink RX8 65 "PrefixLeaderModel" "stepKind" "[I", .fieldLink RX8 74 "PrefixLeaderModel" "stepGoal" "[I"] ++ wsX80)
def wsX8_led_r1 : List Cond := [Cond.fieldLink RX8 202 "PrefixLeaderModel" "hasWay" "Z", Cond.fieldLink RX8 199 "PrefixLeaderModel" "stepMany" "I", Cond.fieldLink RX8 209 "PrefixLeaderModel" "wayMany" "I", Cond.fieldLink RX8 77 "PrefixLeaderModel" "wayAddress" "[J", Cond.fieldLink RX8 80 "PrefixLeaderModel" "wayBits" "[I", Cond.fieldLink RX8 83 "PrefixLeaderModel" "wayGoal" "[I", Cond.fieldLink RX8 65 "PrefixLeaderModel" "stepKind" "[I", Cond.fieldLink RX8 68 "PrefixLeaderModel" "stepAddress" "[J", Cond.fieldLink RX8 71 "PrefixLeaderModel" "stepBits" "[I", Cond.fieldLink RX8 74 "PrefixLeaderModel" "stepGoal" "[I", Cond.methodLink RX8 92 yX8_lies, Cond.static yX8_lies, Cond.initialized RX8, Cond.code yX8_lies cX8_lies 3 (some .boolean), Cond.methodLink RX8 98 yX8_number, Cond.static yX8_number, Cond.code yX8_number cX8_number 1 (some .long), Cond.constantLong RX8 96 (4294967295), Cond.methodLink RX8 212 yX8_done, Cond.instanceMethod yX8_done, Cond.selects RX8 yX8_done yX8_done, Cond.code yX8_done cX8_done 7 (some .int), Cond.methodLink RX8 126 yX8_begins, Cond.static yX8_begins]
def wsX8_led_r2 : List Cond := [Cond.code yX8_begins cX8_begins 5 (some .boolean), Cond.methodLink RX8 102 yX8_size, Cond.static yX8_size, Cond.code yX8_size cX8_size 1 (some .long)]
def wsX8_led : List Cond := .code yX8_led cX8_led 9 (some .int) :: ((wsX8_led_r1 ++ wsX8_led_r2) ++ wsX80)
def wsX8_counts : List Cond := .code yX8_counts cX8_counts 5 none :: ([.fieldLink RX8 215 "PrefixLeaderModel" "seenMany" "I", .fieldLink RX8 86 "PrefixLeaderModel" "seen" "[J", .fieldLink RX8 89 "PrefixLeaderModel" "seenBits" "[I"] ++ wsX80)
def wsX8_pressed : List Cond := .code yX8_pressed cX8_pressed 7 none :: ([.fieldLink RX8 7 "PrefixLeaderModel" "many" "[I", .fieldLink RX8 13 "PrefixLeaderModel" "address" "[J", .fieldLink RX8 17 "PrefixLeaderModel" "bits" "[I", .methodLink RX8 218 yX8_counts, .instanceMethod yX8_counts, .selects RX8 yX8_counts yX8_counts, .initialized RX8, .code yX8_counts cX8_counts 5 none, .fieldLink RX8 215 "PrefixLeaderModel" "seenMany" "I", .fieldLink RX8 86 "PrefixLeaderModel" "seen" "[J", .fieldLink RX8 89 "PrefixLeaderModel" "seenBits" "[I", .methodLink RX8 126 yX8_begins, .static yX8_begins, .code yX8_begins cX8_begins 5 (some .boolean), .methodLink RX8 102 yX8_size, .static yX8_size, .code yX8_size cX8_size 1 (some .long)] ++ wsX80)
def wsX8_strides : List Cond := .code yX8_strides cX8_strides 5 none :: ([.fieldLink RX8 7 "PrefixLeaderModel" "many" "[I", .fieldLink RX8 17 "PrefixLeaderModel" "bits" "[I", .fieldLink RX8 13 "PrefixLeaderModel" "address" "[J", .methodLink RX8 218 yX8_counts, .instanceMethod yX8_counts, .selects RX8 yX8_counts yX8_counts, .initialized RX8, .code yX8_counts cX8_counts 5 none, .fieldLink RX8 215 "PrefixLeaderModel" "seenMany" "I", .fieldLink RX8 86 "PrefixLeaderModel" "seen" "[J", .fieldLink RX8 89 "PrefixLeaderModel" "seenBits" "[I", .methodLink RX8 102 yX8_size, .static yX8_size, .code yX8_size cX8_size 1 (some .long)] ++ wsX80)
def wsX8_steps_r1 : List Cond := [Cond.fieldLink RX8 215 "PrefixLeaderModel" "seenMany" "I", Cond.fieldLink RX8 86 "PrefixLeaderModel" "seen" "[J", Cond.fieldLink RX8 89 "PrefixLeaderModel" "seenBits" "[I", Cond.methodLink RX8 109 yX8_isBook, Cond.static yX8_isBook, Cond.initialized RX8, Cond.code yX8_isBook cX8_isBook 1 (some .boolean), Cond.methodLink RX8 92 yX8_lies, Cond.static yX8_lies, Cond.code yX8_lies cX8_lies 3 (some .boolean), Cond.methodLink RX8 222 yX8_strides, Cond.instanceMethod yX8_strides, Cond.selects RX8 yX8_strides yX8_strides, Cond.code yX8_strides cX8_strides 5 none, Cond.fieldLink RX8 7 "PrefixLeaderModel" "many" "[I", Cond.fieldLink RX8 17 "PrefixLeaderModel" "bits" "[I", Cond.fieldLink RX8 13 "PrefixLeaderModel" "address" "[J", Cond.methodLink RX8 218 yX8_counts, Cond.instanceMethod yX8_counts, Cond.selects RX8 yX8_counts yX8_counts, Cond.code yX8_counts cX8_counts 5 none, Cond.methodLink RX8 102 yX8_size, Cond.static yX8_size, Cond.code yX8_size cX8_size 1 (some .long)]
def wsX8_steps_r2 : List Cond := [Cond.methodLink RX8 98 yX8_number, Cond.static yX8_number, Cond.code yX8_number cX8_number 1 (some .long), Cond.constantLong RX8 96 (4294967295), Cond.methodLink RX8 126 yX8_begins, Cond.static yX8_begins, Cond.code yX8_begins cX8_begins 5 (some .boolean)]
def wsX8_steps : List Cond := .code yX8_steps cX8_steps 5 (some .int) :: ((wsX8_steps_r1 ++ wsX8_steps_r2) ++ wsX80)
def wsX8_nodes_r1 : List Cond := [Cond.constantLong RX8 124 (-1), Cond.fieldLink RX8 215 "PrefixLeaderModel" "seenMany" "I", Cond.fieldLink RX8 89 "PrefixLeaderModel" "seenBits" "[I", Cond.fieldLink RX8 86 "PrefixLeaderModel" "seen" "[J", Cond.methodLink RX8 109 yX8_isBook, Cond.static yX8_isBook, Cond.initialized RX8, Cond.code yX8_isBook cX8_isBook 1 (some .boolean), Cond.methodLink RX8 92 yX8_lies, Cond.static yX8_lies, Cond.code yX8_lies cX8_lies 3 (some .boolean), Cond.methodLink RX8 225 yX8_pressed, Cond.instanceMethod yX8_pressed, Cond.selects RX8 yX8_pressed yX8_pressed, Cond.code yX8_pressed cX8_pressed 7 none, Cond.fieldLink RX8 7 "PrefixLeaderModel" "many" "[I", Cond.fieldLink RX8 13 "PrefixLeaderModel" "address" "[J", Cond.fieldLink RX8 17 "PrefixLeaderModel" "bits" "[I", Cond.methodLink RX8 218 yX8_counts, Cond.instanceMethod yX8_counts, Cond.selects RX8 yX8_counts yX8_counts, Cond.code yX8_counts cX8_counts 5 none, Cond.methodLink RX8 126 yX8_begins, Cond.static yX8_begins]
def wsX8_nodes_r2 : List Cond := [Cond.code yX8_begins cX8_begins 5 (some .boolean), Cond.methodLink RX8 102 yX8_size, Cond.static yX8_size, Cond.code yX8_size cX8_size 1 (some .long), Cond.methodLink RX8 222 yX8_strides, Cond.instanceMethod yX8_strides, Cond.selects RX8 yX8_strides yX8_strides, Cond.code yX8_strides cX8_strides 5 none]
def wsX8_nodes : List Cond := .code yX8_nodes cX8_nodes 7 (some .long) :: ((wsX8_nodes_r1 ++ wsX8_nodes_r2) ++ wsX80)
def wsJ9_max_7cf53 : List Cond := .code yJ9_max_7cf53 cJ9_max_7cf53 2 (some .int) :: ([])
def wsJ9_min_7cf53 : List Cond := .code yJ9_min_7cf53 cJ9_min_7cf53 2 (some .int) :: ([])
def wsJ9_min_f86c9 : List Cond := .code yJ9_min_f86c9 cJ9_min_f86c9 4 (some .long) :: ([])
abbrev vwCl : List vw_C := [(RX0, TX0, 3), (RX1, TX1, 2), (RX2, TX2, 5), (RX3, TX3, 6), (RX5, TX5, 7), (RX6, TX6, 5), (RX7, TX7, 9), (RX8, TX8, 34)]
end
section
theorem dX0_init_0 : decode cX0_init 0 = .ok (.aload_n 0, 1) := by decide +kernel
theorem dX0_init_1 : decode cX0_init 1 = .ok (.invokespecial 3, 3) := by decide +kernel
theorem dX0_init_4 : decode cX0_init 4 = .ok (.aload_n 0, 1) := by decide +kernel
theorem dX0_init_5 : decode cX0_init 5 = .ok (.bipush 62, 2) := by decide +kernel
theorem dX0_init_7 : decode cX0_init 7 = .ok (.newarray .long, 2) := by decide +kernel
theorem dX0_init_9 : decode cX0_init 9 = .ok (.putfield 11, 3) := by decide +kernel
theorem dX0_init_12 : decode cX0_init 12 = .ok (.aload_n 0, 1) := by decide +kernel
theorem dX0_init_13 : decode cX0_init 13 = .ok (.bipush 62, 2) := by decide +kernel
theorem dX0_init_15 : decode cX0_init 15 = .ok (.newarray .int, 2) := by decide +kernel
theorem dX0_init_17 : decode cX0_init 17 = .ok (.putfield 15, 3) := by decide +kernel
theorem dX0_init_20 : decode cX0_init 20 = .ok (.return_, 1) := by decide +kernel
set_option maxRecDepth 20000 in
theorem ggX0_make_X0_fewestBits : GoodIn wsX0_make wsX0_fewestBits := goodIn_r _ [7, 8, 9, 6, 10, 11] (by decide +kernel) (by decide +kernel)
set_option maxRecDepth 20000 in
theorem gX0_make_X0_fewestBits : GoodIn wsX0_make (va_wsS RX0 23 yX0_fewestBits wsX0_fewestBits) := goodIn_app (goodIn_of _ (by decide +kernel)) ggX0_make_X0_fewestBits
set_option maxRecDepth 20000 in
theorem ggX0_make_X0_addressesOf : GoodIn wsX0_make wsX0_addressesOf := goodIn_r _ [10, 11] (by decide +kernel) (by decide +kernel)
set_option maxRecDepth 20000 in
theorem gX0_make_X0_addressesOf : GoodIn wsX0_make (va_wsS RX0 27 yX0_addressesOf wsX0_addressesOf) := goodIn_app (goodIn_of _ (by decide +kernel)) ggX0_make_X0_addressesOf
theorem dX0_make_0 : decode cX0_make 0 = .ok (.aload_n 0, 1) := by decide +kernel
theorem dX0_make_1 : decode cX0_make 1 = .ok (.iconst 0, 1) := by decide +kernel
theorem dX0_make_2 : decode cX0_make 2 = .ok (.putfield 19, 3) := by decide +kernel
theorem dX0_make_5 : decode cX0_make 5 = .ok (.lload_n 1, 1) := by decide +kernel
theorem dX0_make_6 : decode cX0_make 6 = .ok (.lstore 5, 2) := by decide +kernel
theorem dX0_make_8 : decode cX0_make 8 = .ok (.lload 5, 2) := by decide +kernel
theorem dX0_make_10 : decode cX0_make 10 = .ok (.lload_n 3, 1) := by decide +kernel
theorem dX0_make_11 : decode cX0_make 11 = .ok (.lcmp, 1) := by decide +kernel
theorem dX0_make_12 : decode cX0_make 12 = .ok (.ifCond .gt 65, 3) := by decide +kernel
theorem dX0_make_15 : decode cX0_make 15 = .ok (.aload_n 0, 1) := by decide +kernel
theorem dX0_make_16 : decode cX0_make 16 = .ok (.getfield 19, 3) := by decide +kernel
theorem dX0_make_19 : decode cX0_make 19 = .ok (.bipush 62, 2) := by decide +kernel
theorem dX0_make_21 : decode cX0_make 21 = .ok (.if_icmp .ge 56, 3) := by decide +kernel
theorem dX0_make_24 : decode cX0_make 24 = .ok (.lload 5, 2) := by decide +kernel
theorem dX0_make_26 : decode cX0_make 26 = .ok (.lload_n 3, 1) := by decide +kernel
theorem dX0_make_27 : decode cX0_make 27 = .ok (.invokestatic 23, 3) := by decide +kernel
theorem dX0_make_30 : decode cX0_make 30 = .ok (.istore 7, 2) := by decide +kernel
theorem dX0_make_32 : decode cX0_make 32 = .ok (.aload_n 0, 1) := by decide +kernel
theorem dX0_make_33 : decode cX0_make 33 = .ok (.getfield 11, 3) := by decide +kernel
theorem dX0_make_36 : decode cX0_make 36 = .ok (.aload_n 0, 1) := by decide +kernel
theorem dX0_make_37 : decode cX0_make 37 = .ok (.getfield 19, 3) := by decide +kernel
theorem dX0_make_40 : decode cX0_make 40 = .ok (.lload 5, 2) := by decide +kernel
theorem dX0_make_42 : decode cX0_make 42 = .ok (.lastore, 1) := by decide +kernel
theorem dX0_make_43 : decode cX0_make 43 = .ok (.aload_n 0, 1) := by decide +kernel
theorem dX0_make_44 : decode cX0_make 44 = .ok (.getfield 15, 3) := by decide +kernel
theorem dX0_make_47 : decode cX0_make 47 = .ok (.aload_n 0, 1) := by decide +kernel
theorem dX0_make_48 : decode cX0_make 48 = .ok (.getfield 19, 3) := by decide +kernel
theorem dX0_make_51 : decode cX0_make 51 = .ok (.iload 7, 2) := by decide +kernel
theorem dX0_make_53 : decode cX0_make 53 = .ok (.iastore, 1) := by decide +kernel
theorem dX0_make_54 : decode cX0_make 54 = .ok (.aload_n 0, 1) := by decide +kernel
theorem dX0_make_55 : decode cX0_make 55 = .ok (.dup, 1) := by decide +kernel
theorem dX0_make_56 : decode cX0_make 56 = .ok (.getfield 19, 3) := by decide +kernel
theorem dX0_make_59 : decode cX0_make 59 = .ok (.iconst 1, 1) := by decide +kernel
theorem dX0_make_60 : decode cX0_make 60 = .ok (.iadd, 1) := by decide +kernel
theorem dX0_make_61 : decode cX0_make 61 = .ok (.putfield 19, 3) := by decide +kernel
theorem dX0_make_64 : decode cX0_make 64 = .ok (.lload 5, 2) := by decide +kernel
theorem dX0_make_66 : decode cX0_make 66 = .ok (.iload 7, 2) := by decide +kernel
theorem dX0_make_68 : decode cX0_make 68 = .ok (.invokestatic 27, 3) := by decide +kernel
theorem dX0_make_71 : decode cX0_make 71 = .ok (.ladd, 1) := by decide +kernel
theorem dX0_make_72 : decode cX0_make 72 = .ok (.lstore 5, 2) := by decide +kernel
theorem dX0_make_74 : decode cX0_make 74 = .ok (.goto (-66), 3) := by decide +kernel
theorem dX0_make_77 : decode cX0_make 77 = .ok (.return_, 1) := by decide +kernel
set_option maxRecDepth 20000 in
theorem ggX0_fewestBits_X0_addressesOf : GoodIn wsX0_fewestBits wsX0_addressesOf := goodIn_r _ [4, 5] (by decide +kernel) (by decide +kernel)
set_option maxRecDepth 20000 in
theorem gX0_fewestBits_X0_addressesOf : GoodIn wsX0_fewestBits (va_wsS RX0 27 yX0_addressesOf wsX0_addressesOf) := goodIn_app (goodIn_of _ (by decide +kernel)) ggX0_fewestBits_X0_addressesOf
theorem dX0_fewestBits_0 : decode cX0_fewestBits 0 = .ok (.iconst 0, 1) := by decide +kernel
theorem dX0_fewestBits_1 : decode cX0_fewestBits 1 = .ok (.istore 4, 2) := by decide +kernel
theorem dX0_fewestBits_3 : decode cX0_fewestBits 3 = .ok (.iload 4, 2) := by decide +kernel
theorem dX0_fewestBits_5 : decode cX0_fewestBits 5 = .ok (.bipush 32, 2) := by decide +kernel
theorem dX0_fewestBits_7 : decode cX0_fewestBits 7 = .ok (.if_icmp .ge 41, 3) := by decide +kernel
theorem dX0_fewestBits_10 : decode cX0_fewestBits 10 = .ok (.iload 4, 2) := by decide +kernel
theorem dX0_fewestBits_12 : decode cX0_fewestBits 12 = .ok (.invokestatic 27, 3) := by decide +kernel
theorem dX0_fewestBits_15 : decode cX0_fewestBits 15 = .ok (.lstore 5, 2) := by decide +kernel
theorem dX0_fewestBits_17 : decode cX0_fewestBits 17 = .ok (.lload_n 0, 1) := by decide +kernel
theorem dX0_fewestBits_18 : decode cX0_fewestBits 18 = .ok (.lload 5, 2) := by decide +kernel
theorem dX0_fewestBits_20 : decode cX0_fewestBits 20 = .ok (.lconst 1, 1) := by decide +kernel
theorem dX0_fewestBits_21 : decode cX0_fewestBits 21 = .ok (.lsub, 1) := by decide +kernel
theorem dX0_fewestBits_22 : decode cX0_fewestBits 22 = .ok (.land, 1) := by decide +kernel
theorem dX0_fewestBits_23 : decode cX0_fewestBits 23 = .ok (.lconst 0, 1) := by decide +kernel
theorem dX0_fewestBits_24 : decode cX0_fewestBits 24 = .ok (.lcmp, 1) := by decide +kernel
theorem dX0_fewestBits_25 : decode cX0_fewestBits 25 = .ok (.ifCond .ne 17, 3) := by decide +kernel
theorem dX0_fewestBits_28 : decode cX0_fewestBits 28 = .ok (.lload_n 0, 1) := by decide +kernel
theorem dX0_fewestBits_29 : decode cX0_fewestBits 29 = .ok (.lload 5, 2) := by decide +kernel
theorem dX0_fewestBits_31 : decode cX0_fewestBits 31 = .ok (.ladd, 1) := by decide +kernel
theorem dX0_fewestBits_32 : decode cX0_fewestBits 32 = .ok (.lconst 1, 1) := by decide +kernel
theorem dX0_fewestBits_33 : decode cX0_fewestBits 33 = .ok (.lsub, 1) := by decide +kernel
theorem dX0_fewestBits_34 : decode cX0_fewestBits 34 = .ok (.lload_n 2, 1) := by decide +kernel
theorem dX0_fewestBits_35 : decode cX0_fewestBits 35 = .ok (.lcmp, 1) := by decide +kernel
theorem dX0_fewestBits_36 : decode cX0_fewestBits 36 = .ok (.ifCond .gt 6, 3) := by decide +kernel
theorem dX0_fewestBits_39 : decode cX0_fewestBits 39 = .ok (.iload 4, 2) := by decide +kernel
theorem dX0_fewestBits_41 : decode cX0_fewestBits 41 = .ok (.ireturn, 1) := by decide +kernel
theorem dX0_fewestBits_42 : decode cX0_fewestBits 42 = .ok (.iinc 4 1, 3) := by decide +kernel
theorem dX0_fewestBits_45 : decode cX0_fewestBits 45 = .ok (.goto (-42), 3) := by decide +kernel
theorem dX0_fewestBits_48 : decode cX0_fewestBits 48 = .ok (.bipush 32, 2) := by decide +kernel
theorem dX0_fewestBits_50 : decode cX0_fewestBits 50 = .ok (.ireturn, 1) := by decide +kernel
theorem dX0_addressesOf_0 : decode cX0_addressesOf 0 = .ok (.ldc2_w 31, 3) := by decide +kernel
theorem dX0_addressesOf_3 : decode cX0_addressesOf 3 = .ok (.iload_n 0, 1) := by decide +kernel
theorem dX0_addressesOf_4 : decode cX0_addressesOf 4 = .ok (.lshr, 1) := by decide +kernel
theorem dX0_addressesOf_5 : decode cX0_addressesOf 5 = .ok (.lreturn, 1) := by decide +kernel
theorem dX0_tell_0 : decode cX0_tell 0 = .ok (.iload_n 1, 1) := by decide +kernel
theorem dX0_tell_1 : decode cX0_tell 1 = .ok (.ifCond .lt 11, 3) := by decide +kernel
theorem dX0_tell_4 : decode cX0_tell 4 = .ok (.iload_n 1, 1) := by decide +kernel
theorem dX0_tell_5 : decode cX0_tell 5 = .ok (.aload_n 0, 1) := by decide +kernel
theorem dX0_tell_6 : decode cX0_tell 6 = .ok (.getfield 19, 3) := by decide +kernel
theorem dX0_tell_9 : decode cX0_tell 9 = .ok (.if_icmp .lt 7, 3) := by decide +kernel
theorem dX0_tell_12 : decode cX0_tell 12 = .ok (.ldc2_w 33, 3) := by decide +kernel
theorem dX0_tell_15 : decode cX0_tell 15 = .ok (.lreturn, 1) := by decide +kernel
theorem dX0_tell_16 : decode cX0_tell 16 = .ok (.iload_n 2, 1) := by decide +kernel
theorem dX0_tell_17 : decode cX0_tell 17 = .ok (.lookupswitch 42 #[(0, 27), (1, 34)], 27) := by decide +kernel
theorem dX0_tell_44 : decode cX0_tell 44 = .ok (.aload_n 0, 1) := by decide +kernel
theorem dX0_tell_45 : decode cX0_tell 45 = .ok (.getfield 11, 3) := by decide +kernel
theorem dX0_tell_48 : decode cX0_tell 48 = .ok (.iload_n 1, 1) := by decide +kernel
theorem dX0_tell_49 : decode cX0_tell 49 = .ok (.laload, 1) := by decide +kernel
theorem dX0_tell_50 : decode cX0_tell 50 = .ok (.lreturn, 1) := by decide +kernel
theorem dX0_tell_51 : decode cX0_tell 51 = .ok (.aload_n 0, 1) := by decide +kernel
theorem dX0_tell_52 : decode cX0_tell 52 = .ok (.getfield 15, 3) := by decide +kernel
theorem dX0_tell_55 : decode cX0_tell 55 = .ok (.iload_n 1, 1) := by decide +kernel
theorem dX0_tell_56 : decode cX0_tell 56 = .ok (.iaload, 1) := by decide +kernel
theorem dX0_tell_57 : decode cX0_tell 57 = .ok (.i2l, 1) := by decide +kernel
theorem dX0_tell_58 : decode cX0_tell 58 = .ok (.lreturn, 1) := by decide +kernel
theorem dX0_tell_59 : decode cX0_tell 59 = .ok (.ldc2_w 33, 3) := by decide +kernel
theorem dX0_tell_62 : decode cX0_tell 62 = .ok (.lreturn, 1) := by decide +kernel
theorem dX1_init_0 : decode cX1_init 0 = .ok (.aload_n 0, 1) := by decide +kernel
theorem dX1_init_1 : decode cX1_init 1 = .ok (.invokespecial 5, 3) := by decide +kernel
theorem dX1_init_4 : decode cX1_init 4 = .ok (.return_, 1) := by decide +kernel
set_option maxRecDepth 20000 in
theorem ggX1_measure_X3_last : GoodIn wsX1_measure wsX3_last := goodIn_r _ [12, 13, 14, 15, 18, 19, 20, 21, 22, 23] (by decide +kernel) (by decide +kernel)
set_option maxRecDepth 20000 in
theorem gX1_measure_X3_last : GoodIn wsX1_measure (wsV RX1 26 RX3 yX3_last wsX3_last) := goodIn_app (goodIn_of _ (by decide +kernel)) ggX1_measure_X3_last
theorem dX1_measure_0 : decode cX1_measure 0 = .ok (.aload_n 0, 1) := by decide +kernel
theorem dX1_measure_1 : decode cX1_measure 1 = .ok (.ldc2_w 11, 3) := by decide +kernel
theorem dX1_measure_4 : decode cX1_measure 4 = .ok (.putfield 13, 3) := by decide +kernel
theorem dX1_measure_7 : decode cX1_measure 7 = .ok (.aload_n 0, 1) := by decide +kernel
theorem dX1_measure_8 : decode cX1_measure 8 = .ok (.lconst 0, 1) := by decide +kernel
theorem dX1_measure_9 : decode cX1_measure 9 = .ok (.putfield 19, 3) := by decide +kernel
theorem dX1_measure_12 : decode cX1_measure 12 = .ok (.lconst 0, 1) := by decide +kernel
theorem dX1_measure_13 : decode cX1_measure 13 = .ok (.lstore_n 3, 1) := by decide +kernel
theorem dX1_measure_14 : decode cX1_measure 14 = .ok (.iconst 0, 1) := by decide +kernel
theorem dX1_measure_15 : decode cX1_measure 15 = .ok (.istore 5, 2) := by decide +kernel
theorem dX1_measure_17 : decode cX1_measure 17 = .ok (.iconst 0, 1) := by decide +kernel
theorem dX1_measure_18 : decode cX1_measure 18 = .ok (.istore 6, 2) := by decide +kernel
theorem dX1_measure_20 : decode cX1_measure 20 = .ok (.iconst 0, 1) := by decide +kernel
theorem dX1_measure_21 : decode cX1_measure 21 = .ok (.istore 7, 2) := by decide +kernel
theorem dX1_measure_23 : decode cX1_measure 23 = .ok (.iload 7, 2) := by decide +kernel
theorem dX1_measure_25 : decode cX1_measure 25 = .ok (.sipush 258, 3) := by decide +kernel
theorem dX1_measure_28 : decode cX1_measure 28 = .ok (.if_icmp .ge 170, 3) := by decide +kernel
theorem dX1_measure_31 : decode cX1_measure 31 = .ok (.iload 5, 2) := by decide +kernel
theorem dX1_measure_33 : decode cX1_measure 33 = .ok (.aload_n 1, 1) := by decide +kernel
theorem dX1_measure_34 : decode cX1_measure 34 = .ok (.getfield 22, 3) := by decide +kernel
theorem dX1_measure_37 : decode cX1_measure 37 = .ok (.if_icmp .ge 161, 3) := by decide +kernel
theorem dX1_measure_40 : decode cX1_measure 40 = .ok (.iload 6, 2) := by decide +kernel
theorem dX1_measure_42 : decode cX1_measure 42 = .ok (.aload_n 2, 1) := by decide +kernel
theorem dX1_measure_43 : decode cX1_measure 43 = .ok (.getfield 22, 3) := by decide +kernel
theorem dX1_measure_46 : decode cX1_measure 46 = .ok (.if_icmp .ge 152, 3) := by decide +kernel
theorem dX1_measure_49 : decode cX1_measure 49 = .ok (.aload_n 1, 1) := by decide +kernel
theorem dX1_measure_50 : decode cX1_measure 50 = .ok (.iload 5, 2) := by decide +kernel
theorem dX1_measure_52 : decode cX1_measure 52 = .ok (.invokevirtual 26, 3) := by decide +kernel
theorem dX1_measure_55 : decode cX1_measure 55 = .ok (.aload_n 2, 1) := by decide +kernel
theorem dX1_measure_56 : decode cX1_measure 56 = .ok (.iload 6, 2) := by decide +kernel
theorem dX1_measure_58 : decode cX1_measure 58 = .ok (.invokevirtual 26, 3) := by decide +kernel
theorem dX1_measure_61 : decode cX1_measure 61 = .ok (.invokestatic 30, 3) := by decide +kernel
theorem dX1_measure_64 : decode cX1_measure 64 = .ok (.lstore 8, 2) := by decide +kernel
theorem dX1_measure_66 : decode cX1_measure 66 = .ok (.aload_n 1, 1) := by decide +kernel
theorem dX1_measure_67 : decode cX1_measure 67 = .ok (.getfield 36, 3) := by decide +kernel
theorem dX1_measure_70 : decode cX1_measure 70 = .ok (.iload 5, 2) := by decide +kernel
theorem dX1_measure_72 : decode cX1_measure 72 = .ok (.iaload, 1) := by decide +kernel
theorem dX1_measure_73 : decode cX1_measure 73 = .ok (.aload_n 2, 1) := by decide +kernel
theorem dX1_measure_74 : decode cX1_measure 74 = .ok (.getfield 36, 3) := by decide +kernel
theorem dX1_measure_77 : decode cX1_measure 77 = .ok (.iload 6, 2) := by decide +kernel
theorem dX1_measure_79 : decode cX1_measure 79 = .ok (.iaload, 1) := by decide +kernel
theorem dX1_measure_80 : decode cX1_measure 80 = .ok (.if_icmp .eq 39, 3) := by decide +kernel
theorem dX1_measure_83 : decode cX1_measure 83 = .ok (.aload_n 0, 1) := by decide +kernel
theorem dX1_measure_84 : decode cX1_measure 84 = .ok (.aload_n 0, 1) := by decide +kernel
theorem dX1_measure_85 : decode cX1_measure 85 = .ok (.getfield 19, 3) := by decide +kernel
theorem dX1_measure_88 : decode cX1_measure 88 = .ok (.lconst 0, 1) := by decide +kernel
theorem dX1_measure_89 : decode cX1_measure 89 = .ok (.lcmp, 1) := by decide +kernel
theorem dX1_measure_90 : decode cX1_measure 90 = .ok (.ifCond .ne 7, 3) := by decide +kernel
theorem dX1_measure_93 : decode cX1_measure 93 = .ok (.lload_n 3, 1) := by decide +kernel
theorem dX1_measure_94 : decode cX1_measure 94 = .ok (.goto 7, 3) := by decide +kernel
theorem dX1_measure_97 : decode cX1_measure 97 = .ok (.aload_n 0, 1) := by decide +kernel
theorem dX1_measure_98 : decode cX1_measure 98 = .ok (.getfield 13, 3) := by decide +kernel
theorem dX1_measure_101 : decode cX1_measure 101 = .ok (.putfield 13, 3) := by decide +kernel
theorem dX1_measure_104 : decode cX1_measure 104 = .ok (.aload_n 0, 1) := by decide +kernel
theorem dX1_measure_105 : decode cX1_measure 105 = .ok (.dup, 1) := by decide +kernel
theorem dX1_measure_106 : decode cX1_measure 106 = .ok (.getfield 19, 3) := by decide +kernel
theorem dX1_measure_109 : decode cX1_measure 109 = .ok (.lload 8, 2) := by decide +kernel
theorem dX1_measure_111 : decode cX1_measure 111 = .ok (.lload_n 3, 1) := by decide +kernel
theorem dX1_measure_112 : decode cX1_measure 112 = .ok (.lsub, 1) := by decide +kernel
theorem dX1_measure_113 : decode cX1_measure 113 = .ok (.lconst 1, 1) := by decide +kernel
theorem dX1_measure_114 : decode cX1_measure 114 = .ok (.ladd, 1) := by decide +kernel
theorem dX1_measure_115 : decode cX1_measure 115 = .ok (.ladd, 1) := by decide +kernel
theorem dX1_measure_116 : decode cX1_measure 116 = .ok (.putfield 19, 3) := by decide +kernel
theorem dX1_measure_119 : decode cX1_measure 119 = .ok (.lload 8, 2) := by decide +kernel
theorem dX1_measure_121 : decode cX1_measure 121 = .ok (.lconst 1, 1) := by decide +kernel
theorem dX1_measure_122 : decode cX1_measure 122 = .ok (.ladd, 1) := by decide +kernel
theorem dX1_measure_123 : decode cX1_measure 123 = .ok (.lstore_n 3, 1) := by decide +kernel
theorem dX1_measure_124 : decode cX1_measure 124 = .ok (.aload_n 1, 1) := by decide +kernel
theorem dX1_measure_125 : decode cX1_measure 125 = .ok (.iload 5, 2) := by decide +kernel
theorem dX1_measure_127 : decode cX1_measure 127 = .ok (.invokevirtual 26, 3) := by decide +kernel
theorem dX1_measure_130 : decode cX1_measure 130 = .ok (.lload 8, 2) := by decide +kernel
theorem dX1_measure_132 : decode cX1_measure 132 = .ok (.lcmp, 1) := by decide +kernel
theorem dX1_measure_133 : decode cX1_measure 133 = .ok (.ifCond .ne 7, 3) := by decide +kernel
theorem dX1_measure_136 : decode cX1_measure 136 = .ok (.iconst 1, 1) := by decide +kernel
theorem dX1_measure_137 : decode cX1_measure 137 = .ok (.goto 4, 3) := by decide +kernel
theorem dX1_measure_140 : decode cX1_measure 140 = .ok (.iconst 0, 1) := by decide +kernel
theorem dX1_measure_141 : decode cX1_measure 141 = .ok (.istore 10, 2) := by decide +kernel
theorem dX1_measure_143 : decode cX1_measure 143 = .ok (.aload_n 2, 1) := by decide +kernel
theorem dX1_measure_144 : decode cX1_measure 144 = .ok (.iload 6, 2) := by decide +kernel
theorem dX1_measure_146 : decode cX1_measure 146 = .ok (.invokevirtual 26, 3) := by decide +kernel
theorem dX1_measure_149 : decode cX1_measure 149 = .ok (.lload 8, 2) := by decide +kernel
theorem dX1_measure_151 : decode cX1_measure 151 = .ok (.lcmp, 1) := by decide +kernel
theorem dX1_measure_152 : decode cX1_measure 152 = .ok (.ifCond .ne 7, 3) := by decide +kernel
theorem dX1_measure_155 : decode cX1_measure 155 = .ok (.iconst 1, 1) := by decide +kernel
theorem dX1_measure_156 : decode cX1_measure 156 = .ok (.goto 4, 3) := by decide +kernel
theorem dX1_measure_159 : decode cX1_measure 159 = .ok (.iconst 0, 1) := by decide +kernel
theorem dX1_measure_160 : decode cX1_measure 160 = .ok (.istore 11, 2) := by decide +kernel
theorem dX1_measure_162 : decode cX1_measure 162 = .ok (.iload 5, 2) := by decide +kernel
theorem dX1_measure_164 : decode cX1_measure 164 = .ok (.iload 10, 2) := by decide +kernel
theorem dX1_measure_166 : decode cX1_measure 166 = .ok (.ifCond .eq 7, 3) := by decide +kernel
theorem dX1_measure_169 : decode cX1_measure 169 = .ok (.iconst 1, 1) := by decide +kernel
theorem dX1_measure_170 : decode cX1_measure 170 = .ok (.goto 4, 3) := by decide +kernel
theorem dX1_measure_173 : decode cX1_measure 173 = .ok (.iconst 0, 1) := by decide +kernel
theorem dX1_measure_174 : decode cX1_measure 174 = .ok (.iadd, 1) := by decide +kernel
theorem dX1_measure_175 : decode cX1_measure 175 = .ok (.istore 5, 2) := by decide +kernel
theorem dX1_measure_177 : decode cX1_measure 177 = .ok (.iload 6, 2) := by decide +kernel
theorem dX1_measure_179 : decode cX1_measure 179 = .ok (.iload 11, 2) := by decide +kernel
theorem dX1_measure_181 : decode cX1_measure 181 = .ok (.ifCond .eq 7, 3) := by decide +kernel
theorem dX1_measure_184 : decode cX1_measure 184 = .ok (.iconst 1, 1) := by decide +kernel
theorem dX1_measure_185 : decode cX1_measure 185 = .ok (.goto 4, 3) := by decide +kernel
theorem dX1_measure_188 : decode cX1_measure 188 = .ok (.iconst 0, 1) := by decide +kernel
theorem dX1_measure_189 : decode cX1_measure 189 = .ok (.iadd, 1) := by decide +kernel
theorem dX1_measure_190 : decode cX1_measure 190 = .ok (.istore 6, 2) := by decide +kernel
theorem dX1_measure_192 : decode cX1_measure 192 = .ok (.iinc 7 1, 3) := by decide +kernel
theorem dX1_measure_195 : decode cX1_measure 195 = .ok (.goto (-172), 3) := by decide +kernel
theorem dX1_measure_198 : decode cX1_measure 198 = .ok (.return_, 1) := by decide +kernel
theorem dX2_init_0 : decode cX2_init 0 = .ok (.aload_n 0, 1) := by decide +kernel
theorem dX2_init_1 : decode cX2_init 1 = .ok (.invokespecial 3, 3) := by decide +kernel
theorem dX2_init_4 : decode cX2_init 4 = .ok (.aload_n 0, 1) := by decide +kernel
theorem dX2_init_5 : decode cX2_init 5 = .ok (.iload_n 1, 1) := by decide +kernel
theorem dX2_init_6 : decode cX2_init 6 = .ok (.iconst 0, 1) := by decide +kernel
theorem dX2_init_7 : decode cX2_init 7 = .ok (.invokestatic 9, 3) := by decide +kernel
theorem dX2_init_10 : decode cX2_init 10 = .ok (.putfield 15, 3) := by decide +kernel
theorem dX2_init_13 : decode cX2_init 13 = .ok (.aload_n 0, 1) := by decide +kernel
theorem dX2_init_14 : decode cX2_init 14 = .ok (.aload_n 0, 1) := by decide +kernel
theorem dX2_init_15 : decode cX2_init 15 = .ok (.getfield 15, 3) := by decide +kernel
theorem dX2_init_18 : decode cX2_init 18 = .ok (.newarray .int, 2) := by decide +kernel
theorem dX2_init_20 : decode cX2_init 20 = .ok (.putfield 21, 3) := by decide +kernel
theorem dX2_init_23 : decode cX2_init 23 = .ok (.aload_n 0, 1) := by decide +kernel
theorem dX2_init_24 : decode cX2_init 24 = .ok (.aload_n 0, 1) := by decide +kernel
theorem dX2_init_25 : decode cX2_init 25 = .ok (.getfield 15, 3) := by decide +kernel
theorem dX2_init_28 : decode cX2_init 28 = .ok (.newarray .int, 2) := by decide +kernel
theorem dX2_init_30 : decode cX2_init 30 = .ok (.putfield 25, 3) := by decide +kernel
theorem dX2_init_33 : decode cX2_init 33 = .ok (.aload_n 0, 1) := by decide +kernel
theorem dX2_init_34 : decode cX2_init 34 = .ok (.aload_n 0, 1) := by decide +kernel
theorem dX2_init_35 : decode cX2_init 35 = .ok (.getfield 15, 3) := by decide +kernel
theorem dX2_init_38 : decode cX2_init 38 = .ok (.newarray .int, 2) := by decide +kernel
theorem dX2_init_40 : decode cX2_init 40 = .ok (.putfield 28, 3) := by decide +kernel
theorem dX2_init_43 : decode cX2_init 43 = .ok (.return_, 1) := by decide +kernel
set_option maxRecDepth 20000 in
theorem ggX2_first_X7_wide : GoodIn wsX2_first wsX7_wide := goodIn_r _ [4, 5] (by decide +kernel) (by decide +kernel)
set_option maxRecDepth 20000 in
theorem gX2_first_X7_wide_n31 : GoodIn wsX2_first (wsX7_wide) := ggX2_first_X7_wide
theorem dX2_first_0 : decode cX2_first 0 = .ok (.aload_n 0, 1) := by decide +kernel
theorem dX2_first_1 : decode cX2_first 1 = .ok (.getfield 21, 3) := by decide +kernel
theorem dX2_first_4 : decode cX2_first 4 = .ok (.iload_n 1, 1) := by decide +kernel
theorem dX2_first_5 : decode cX2_first 5 = .ok (.iaload, 1) := by decide +kernel
theorem dX2_first_6 : decode cX2_first 6 = .ok (.invokestatic 31, 3) := by decide +kernel
theorem dX2_first_9 : decode cX2_first 9 = .ok (.lreturn, 1) := by decide +kernel
set_option maxRecDepth 20000 in
theorem ggX2_last_X7_mask : GoodIn wsX2_last wsX7_mask := goodIn_r _ [5, 6, 7, 8, 9] (by decide +kernel) (by decide +kernel)
set_option maxRecDepth 20000 in
theorem gX2_last_X7_mask_n35 : GoodIn wsX2_last (wsX7_mask) := ggX2_last_X7_mask
set_option maxRecDepth 20000 in
theorem ggX2_last_X7_wide : GoodIn wsX2_last wsX7_wide := goodIn_r _ [11, 12] (by decide +kernel) (by decide +kernel)
set_option maxRecDepth 20000 in
theorem gX2_last_X7_wide_n31 : GoodIn wsX2_last (wsX7_wide) := ggX2_last_X7_wide
theorem dX2_last_0 : decode cX2_last 0 = .ok (.aload_n 0, 1) := by decide +kernel
theorem dX2_last_1 : decode cX2_last 1 = .ok (.getfield 21, 3) := by decide +kernel
theorem dX2_last_4 : decode cX2_last 4 = .ok (.iload_n 1, 1) := by decide +kernel
theorem dX2_last_5 : decode cX2_last 5 = .ok (.iaload, 1) := by decide +kernel
theorem dX2_last_6 : decode cX2_last 6 = .ok (.aload_n 0, 1) := by decide +kernel
theorem dX2_last_7 : decode cX2_last 7 = .ok (.getfield 25, 3) := by decide +kernel
theorem dX2_last_10 : decode cX2_last 10 = .ok (.iload_n 1, 1) := by decide +kernel
theorem dX2_last_11 : decode cX2_last 11 = .ok (.iaload, 1) := by decide +kernel
theorem dX2_last_12 : decode cX2_last 12 = .ok (.invokestatic 35, 3) := by decide +kernel
theorem dX2_last_15 : decode cX2_last 15 = .ok (.iconst (-1), 1) := by decide +kernel
theorem dX2_last_16 : decode cX2_last 16 = .ok (.ixor, 1) := by decide +kernel
theorem dX2_last_17 : decode cX2_last 17 = .ok (.ior, 1) := by decide +kernel
theorem dX2_last_18 : decode cX2_last 18 = .ok (.invokestatic 31, 3) := by decide +kernel
theorem dX2_last_21 : decode cX2_last 21 = .ok (.lreturn, 1) := by decide +kernel
theorem dX2_isAt_0 : decode cX2_isAt 0 = .ok (.iload_n 1, 1) := by decide +kernel
theorem dX2_isAt_1 : decode cX2_isAt 1 = .ok (.ifCond .lt 35, 3) := by decide +kernel
theorem dX2_isAt_4 : decode cX2_isAt 4 = .ok (.iload_n 1, 1) := by decide +kernel
theorem dX2_isAt_5 : decode cX2_isAt 5 = .ok (.aload_n 0, 1) := by decide +kernel
theorem dX2_isAt_6 : decode cX2_isAt 6 = .ok (.getfield 39, 3) := by decide +kernel
theorem dX2_isAt_9 : decode cX2_isAt 9 = .ok (.if_icmp .ge 27, 3) := by decide +kernel
theorem dX2_isAt_12 : decode cX2_isAt 12 = .ok (.aload_n 0, 1) := by decide +kernel
theorem dX2_isAt_13 : decode cX2_isAt 13 = .ok (.getfield 21, 3) := by decide +kernel
theorem dX2_isAt_16 : decode cX2_isAt 16 = .ok (.iload_n 1, 1) := by decide +kernel
theorem dX2_isAt_17 : decode cX2_isAt 17 = .ok (.iaload, 1) := by decide +kernel
theorem dX2_isAt_18 : decode cX2_isAt 18 = .ok (.iload_n 2, 1) := by decide +kernel
theorem dX2_isAt_19 : decode cX2_isAt 19 = .ok (.if_icmp .ne 17, 3) := by decide +kernel
theorem dX2_isAt_22 : decode cX2_isAt 22 = .ok (.aload_n 0, 1) := by decide +kernel
theorem dX2_isAt_23 : decode cX2_isAt 23 = .ok (.getfield 25, 3) := by decide +kernel
theorem dX2_isAt_26 : decode cX2_isAt 26 = .ok (.iload_n 1, 1) := by decide +kernel
theorem dX2_isAt_27 : decode cX2_isAt 27 = .ok (.iaload, 1) := by decide +kernel
theorem dX2_isAt_28 : decode cX2_isAt 28 = .ok (.iload_n 3, 1) := by decide +kernel
theorem dX2_isAt_29 : decode cX2_isAt 29 = .ok (.if_icmp .ne 7, 3) := by decide +kernel
theorem dX2_isAt_32 : decode cX2_isAt 32 = .ok (.iconst 1, 1) := by decide +kernel
theorem dX2_isAt_33 : decode cX2_isAt 33 = .ok (.goto 4, 3) := by decide +kernel
theorem dX2_isAt_36 : decode cX2_isAt 36 = .ok (.iconst 0, 1) := by decide +kernel
theorem dX2_isAt_37 : decode cX2_isAt 37 = .ok (.ireturn, 1) := by decide +kernel
set_option maxRecDepth 20000 in
theorem ggX2_hasBeginning_X2_placeOf : GoodIn wsX2_hasBeginning wsX2_placeOf := goodIn_r _ [5, 6, 7, 8, 9, 4, 10, 11, 12, 13, 14, 15, 16, 21, 22, 23, 24, 25] (by decide +kernel) (by decide +kernel)
set_option maxRecDepth 20000 in
theorem gX2_hasBeginning_X2_placeOf : GoodIn wsX2_hasBeginning (wsV RX2 42 RX2 yX2_placeOf wsX2_placeOf) := goodIn_app (goodIn_of _ (by decide +kernel)) ggX2_hasBeginning_X2_placeOf
set_option maxRecDepth 20000 in
theorem ggX2_hasBeginning_X2_isAt : GoodIn wsX2_hasBeginning wsX2_isAt := goodIn_r _ [20, 6, 11, 12, 21, 22, 23, 24, 25] (by decide +kernel) (by decide +kernel)
set_option maxRecDepth 20000 in
theorem gX2_hasBeginning_X2_isAt : GoodIn wsX2_hasBeginning (wsV RX2 45 RX2 yX2_isAt wsX2_isAt) := goodIn_app (goodIn_of _ (by decide +kernel)) ggX2_hasBeginning_X2_isAt
theorem dX2_hasBeginning_0 : decode cX2_hasBeginning 0 = .ok (.aload_n 0, 1) := by decide +kernel
theorem dX2_hasBeginning_1 : decode cX2_hasBeginning 1 = .ok (.aload_n 0, 1) := by decide +kernel
theorem dX2_hasBeginning_2 : decode cX2_hasBeginning 2 = .ok (.iload_n 1, 1) := by decide +kernel
theorem dX2_hasBeginning_3 : decode cX2_hasBeginning 3 = .ok (.iload_n 2, 1) := by decide +kernel
theorem dX2_hasBeginning_4 : decode cX2_hasBeginning 4 = .ok (.invokevirtual 42, 3) := by decide +kernel
theorem dX2_hasBeginning_7 : decode cX2_hasBeginning 7 = .ok (.iload_n 1, 1) := by decide +kernel
theorem dX2_hasBeginning_8 : decode cX2_hasBeginning 8 = .ok (.iload_n 2, 1) := by decide +kernel
theorem dX2_hasBeginning_9 : decode cX2_hasBeginning 9 = .ok (.invokevirtual 45, 3) := by decide +kernel
theorem dX2_hasBeginning_12 : decode cX2_hasBeginning 12 = .ok (.ireturn, 1) := by decide +kernel
set_option maxRecDepth 20000 in
theorem ggX2_hasLine_X2_placeOf : GoodIn wsX2_hasLine wsX2_placeOf := goodIn_r _ [6, 7, 8, 9, 10, 5, 11, 12, 13, 14, 15, 16, 17, 22, 23, 24, 25, 26] (by decide +kernel) (by decide +kernel)
set_option maxRecDepth 20000 in
theorem gX2_hasLine_X2_placeOf : GoodIn wsX2_hasLine (wsV RX2 42 RX2 yX2_placeOf wsX2_placeOf) := goodIn_app (goodIn_of _ (by decide +kernel)) ggX2_hasLine_X2_placeOf
set_option maxRecDepth 20000 in
theorem ggX2_hasLine_X2_isAt : GoodIn wsX2_hasLine wsX2_isAt := goodIn_r _ [21, 7, 12, 13, 22, 23, 24, 25, 26] (by decide +kernel) (by decide +kernel)
set_option maxRecDepth 20000 in
theorem gX2_hasLine_X2_isAt : GoodIn wsX2_hasLine (wsV RX2 45 RX2 yX2_isAt wsX2_isAt) := goodIn_app (goodIn_of _ (by decide +kernel)) ggX2_hasLine_X2_isAt
theorem dX2_hasLine_0 : decode cX2_hasLine 0 = .ok (.aload_n 0, 1) := by decide +kernel
theorem dX2_hasLine_1 : decode cX2_hasLine 1 = .ok (.iload_n 1, 1) := by decide +kernel
theorem dX2_hasLine_2 : decode cX2_hasLine 2 = .ok (.iload_n 2, 1) := by decide +kernel
theorem dX2_hasLine_3 : decode cX2_hasLine 3 = .ok (.invokevirtual 42, 3) := by decide +kernel
theorem dX2_hasLine_6 : decode cX2_hasLine 6 = .ok (.istore 4, 2) := by decide +kernel
theorem dX2_hasLine_8 : decode cX2_hasLine 8 = .ok (.aload_n 0, 1) := by decide +kernel
theorem dX2_hasLine_9 : decode cX2_hasLine 9 = .ok (.iload 4, 2) := by decide +kernel
theorem dX2_hasLine_11 : decode cX2_hasLine 11 = .ok (.iload_n 1, 1) := by decide +kernel
theorem dX2_hasLine_12 : decode cX2_hasLine 12 = .ok (.iload_n 2, 1) := by decide +kernel
theorem dX2_hasLine_13 : decode cX2_hasLine 13 = .ok (.invokevirtual 45, 3) := by decide +kernel
theorem dX2_hasLine_16 : decode cX2_hasLine 16 = .ok (.ifCond .eq 18, 3) := by decide +kernel
theorem dX2_hasLine_19 : decode cX2_hasLine 19 = .ok (.aload_n 0, 1) := by decide +kernel
theorem dX2_hasLine_20 : decode cX2_hasLine 20 = .ok (.getfield 28, 3) := by decide +kernel
theorem dX2_hasLine_23 : decode cX2_hasLine 23 = .ok (.iload 4, 2) := by decide +kernel
theorem dX2_hasLine_25 : decode cX2_hasLine 25 = .ok (.iaload, 1) := by decide +kernel
theorem dX2_hasLine_26 : decode cX2_hasLine 26 = .ok (.iload_n 3, 1) := by decide +kernel
theorem dX2_hasLine_27 : decode cX2_hasLine 27 = .ok (.if_icmp .ne 7, 3) := by decide +kernel
theorem dX2_hasLine_30 : decode cX2_hasLine 30 = .ok (.iconst 1, 1) := by decide +kernel
theorem dX2_hasLine_31 : decode cX2_hasLine 31 = .ok (.goto 4, 3) := by decide +kernel
theorem dX2_hasLine_34 : decode cX2_hasLine 34 = .ok (.iconst 0, 1) := by decide +kernel
theorem dX2_hasLine_35 : decode cX2_hasLine 35 = .ok (.ireturn, 1) := by decide +kernel
set_option maxRecDepth 20000 in
theorem ggX2_placeOf_X2_isAhead : GoodIn wsX2_placeOf wsX2_isAhead := goodIn_r _ [6, 7, 8, 9, 10, 11, 12, 13, 14, 15, 16, 17] (by decide +kernel) (by decide +kernel)
set_option maxRecDepth 20000 in
theorem gX2_placeOf_X2_isAhead : GoodIn wsX2_placeOf (wsV RX2 49 RX2 yX2_isAhead wsX2_isAhead) := goodIn_app (goodIn_of _ (by decide +kernel)) ggX2_placeOf_X2_isAhead
theorem dX2_placeOf_0 : decode cX2_placeOf 0 = .ok (.iconst 0, 1) := by decide +kernel
theorem dX2_placeOf_1 : decode cX2_placeOf 1 = .ok (.istore_n 3, 1) := by decide +kernel
theorem dX2_placeOf_2 : decode cX2_placeOf 2 = .ok (.iload_n 3, 1) := by decide +kernel
theorem dX2_placeOf_3 : decode cX2_placeOf 3 = .ok (.aload_n 0, 1) := by decide +kernel
theorem dX2_placeOf_4 : decode cX2_placeOf 4 = .ok (.getfield 39, 3) := by decide +kernel
theorem dX2_placeOf_7 : decode cX2_placeOf 7 = .ok (.if_icmp .ge 21, 3) := by decide +kernel
theorem dX2_placeOf_10 : decode cX2_placeOf 10 = .ok (.aload_n 0, 1) := by decide +kernel
theorem dX2_placeOf_11 : decode cX2_placeOf 11 = .ok (.iload_n 3, 1) := by decide +kernel
theorem dX2_placeOf_12 : decode cX2_placeOf 12 = .ok (.iload_n 1, 1) := by decide +kernel
theorem dX2_placeOf_13 : decode cX2_placeOf 13 = .ok (.iload_n 2, 1) := by decide +kernel
theorem dX2_placeOf_14 : decode cX2_placeOf 14 = .ok (.invokevirtual 49, 3) := by decide +kernel
theorem dX2_placeOf_17 : decode cX2_placeOf 17 = .ok (.ifCond .ne 5, 3) := by decide +kernel
theorem dX2_placeOf_20 : decode cX2_placeOf 20 = .ok (.iload_n 3, 1) := by decide +kernel
theorem dX2_placeOf_21 : decode cX2_placeOf 21 = .ok (.ireturn, 1) := by decide +kernel
theorem dX2_placeOf_22 : decode cX2_placeOf 22 = .ok (.iinc 3 1, 3) := by decide +kernel
theorem dX2_placeOf_25 : decode cX2_placeOf 25 = .ok (.goto (-23), 3) := by decide +kernel
theorem dX2_placeOf_28 : decode cX2_placeOf 28 = .ok (.aload_n 0, 1) := by decide +kernel
theorem dX2_placeOf_29 : decode cX2_placeOf 29 = .ok (.getfield 39, 3) := by decide +kernel
theorem dX2_placeOf_32 : decode cX2_placeOf 32 = .ok (.ireturn, 1) := by decide +kernel
set_option maxRecDepth 20000 in
theorem ggX2_isAhead_X7_wide : GoodIn wsX2_isAhead wsX7_wide := goodIn_r _ [5, 6] (by decide +kernel) (by decide +kernel)
set_option maxRecDepth 20000 in
theorem gX2_isAhead_X7_wide_n31 : GoodIn wsX2_isAhead (wsX7_wide) := ggX2_isAhead_X7_wide
theorem dX2_isAhead_0 : decode cX2_isAhead 0 = .ok (.aload_n 0, 1) := by decide +kernel
theorem dX2_isAhead_1 : decode cX2_isAhead 1 = .ok (.getfield 21, 3) := by decide +kernel
theorem dX2_isAhead_4 : decode cX2_isAhead 4 = .ok (.iload_n 1, 1) := by decide +kernel
theorem dX2_isAhead_5 : decode cX2_isAhead 5 = .ok (.iaload, 1) := by decide +kernel
theorem dX2_isAhead_6 : decode cX2_isAhead 6 = .ok (.iload_n 2, 1) := by decide +kernel
theorem dX2_isAhead_7 : decode cX2_isAhead 7 = .ok (.if_icmp .ne 19, 3) := by decide +kernel
theorem dX2_isAhead_10 : decode cX2_isAhead 10 = .ok (.aload_n 0, 1) := by decide +kernel
theorem dX2_isAhead_11 : decode cX2_isAhead 11 = .ok (.getfield 25, 3) := by decide +kernel
theorem dX2_isAhead_14 : decode cX2_isAhead 14 = .ok (.iload_n 1, 1) := by decide +kernel
theorem dX2_isAhead_15 : decode cX2_isAhead 15 = .ok (.iaload, 1) := by decide +kernel
theorem dX2_isAhead_16 : decode cX2_isAhead 16 = .ok (.iload_n 3, 1) := by decide +kernel
theorem dX2_isAhead_17 : decode cX2_isAhead 17 = .ok (.if_icmp .ge 7, 3) := by decide +kernel
theorem dX2_isAhead_20 : decode cX2_isAhead 20 = .ok (.iconst 1, 1) := by decide +kernel
theorem dX2_isAhead_21 : decode cX2_isAhead 21 = .ok (.goto 4, 3) := by decide +kernel
theorem dX2_isAhead_24 : decode cX2_isAhead 24 = .ok (.iconst 0, 1) := by decide +kernel
theorem dX2_isAhead_25 : decode cX2_isAhead 25 = .ok (.ireturn, 1) := by decide +kernel
theorem dX2_isAhead_26 : decode cX2_isAhead 26 = .ok (.aload_n 0, 1) := by decide +kernel
theorem dX2_isAhead_27 : decode cX2_isAhead 27 = .ok (.getfield 21, 3) := by decide +kernel
theorem dX2_isAhead_30 : decode cX2_isAhead 30 = .ok (.iload_n 1, 1) := by decide +kernel
theorem dX2_isAhead_31 : decode cX2_isAhead 31 = .ok (.iaload, 1) := by decide +kernel
theorem dX2_isAhead_32 : decode cX2_isAhead 32 = .ok (.invokestatic 31, 3) := by decide +kernel
theorem dX2_isAhead_35 : decode cX2_isAhead 35 = .ok (.iload_n 2, 1) := by decide +kernel
theorem dX2_isAhead_36 : decode cX2_isAhead 36 = .ok (.invokestatic 31, 3) := by decide +kernel
theorem dX2_isAhead_39 : decode cX2_isAhead 39 = .ok (.lcmp, 1) := by decide +kernel
theorem dX2_isAhead_40 : decode cX2_isAhead 40 = .ok (.ifCond .ge 7, 3) := by decide +kernel
theorem dX2_isAhead_43 : decode cX2_isAhead 43 = .ok (.iconst 1, 1) := by decide +kernel
theorem dX2_isAhead_44 : decode cX2_isAhead 44 = .ok (.goto 4, 3) := by decide +kernel
theorem dX2_isAhead_47 : decode cX2_isAhead 47 = .ok (.iconst 0, 1) := by decide +kernel
theorem dX2_isAhead_48 : decode cX2_isAhead 48 = .ok (.ireturn, 1) := by decide +kernel
set_option maxRecDepth 20000 in
theorem ggX2_endOf_X7_begins : GoodIn wsX2_endOf wsX7_begins := goodIn_r _ [9, 10, 11, 8, 12, 13, 14, 3, 15] (by decide +kernel) (by decide +kernel)
set_option maxRecDepth 20000 in
theorem gX2_endOf_X7_begins_n52 : GoodIn wsX2_endOf (wsX7_begins) := ggX2_endOf_X7_begins
theorem dX2_endOf_0 : decode cX2_endOf 0 = .ok (.iload_n 1, 1) := by decide +kernel
theorem dX2_endOf_1 : decode cX2_endOf 1 = .ok (.iconst 0, 1) := by decide +kernel
theorem dX2_endOf_2 : decode cX2_endOf 2 = .ok (.invokestatic 9, 3) := by decide +kernel
theorem dX2_endOf_5 : decode cX2_endOf 5 = .ok (.istore 4, 2) := by decide +kernel
theorem dX2_endOf_7 : decode cX2_endOf 7 = .ok (.iload 4, 2) := by decide +kernel
theorem dX2_endOf_9 : decode cX2_endOf 9 = .ok (.aload_n 0, 1) := by decide +kernel
theorem dX2_endOf_10 : decode cX2_endOf 10 = .ok (.getfield 39, 3) := by decide +kernel
theorem dX2_endOf_13 : decode cX2_endOf 13 = .ok (.if_icmp .ge 27, 3) := by decide +kernel
theorem dX2_endOf_16 : decode cX2_endOf 16 = .ok (.aload_n 0, 1) := by decide +kernel
theorem dX2_endOf_17 : decode cX2_endOf 17 = .ok (.getfield 21, 3) := by decide +kernel
theorem dX2_endOf_20 : decode cX2_endOf 20 = .ok (.iload 4, 2) := by decide +kernel
theorem dX2_endOf_22 : decode cX2_endOf 22 = .ok (.iaload, 1) := by decide +kernel
theorem dX2_endOf_23 : decode cX2_endOf 23 = .ok (.iload_n 2, 1) := by decide +kernel
theorem dX2_endOf_24 : decode cX2_endOf 24 = .ok (.iload_n 3, 1) := by decide +kernel
theorem dX2_endOf_25 : decode cX2_endOf 25 = .ok (.invokestatic 52, 3) := by decide +kernel
theorem dX2_endOf_28 : decode cX2_endOf 28 = .ok (.ifCond .ne 6, 3) := by decide +kernel
theorem dX2_endOf_31 : decode cX2_endOf 31 = .ok (.iload 4, 2) := by decide +kernel
theorem dX2_endOf_33 : decode cX2_endOf 33 = .ok (.ireturn, 1) := by decide +kernel
theorem dX2_endOf_34 : decode cX2_endOf 34 = .ok (.iinc 4 1, 3) := by decide +kernel
theorem dX2_endOf_37 : decode cX2_endOf 37 = .ok (.goto (-30), 3) := by decide +kernel
theorem dX2_endOf_40 : decode cX2_endOf 40 = .ok (.aload_n 0, 1) := by decide +kernel
theorem dX2_endOf_41 : decode cX2_endOf 41 = .ok (.getfield 39, 3) := by decide +kernel
theorem dX2_endOf_44 : decode cX2_endOf 44 = .ok (.ireturn, 1) := by decide +kernel
set_option maxRecDepth 20000 in
theorem ggX2_lastHolder_X7_begins : GoodIn wsX2_lastHolder wsX7_begins := goodIn_r _ [10, 11, 12, 9, 13, 14, 3, 4, 5] (by decide +kernel) (by decide +kernel)
set_option maxRecDepth 20000 in
theorem gX2_lastHolder_X7_begins_n52 : GoodIn wsX2_lastHolder (wsX7_begins) := ggX2_lastHolder_X7_begins
theorem dX2_lastHolder_0 : decode cX2_lastHolder 0 = .ok (.iload_n 1, 1) := by decide +kernel
theorem dX2_lastHolder_1 : decode cX2_lastHolder 1 = .ok (.aload_n 0, 1) := by decide +kernel
theorem dX2_lastHolder_2 : decode cX2_lastHolder 2 = .ok (.getfield 39, 3) := by decide +kernel
theorem dX2_lastHolder_5 : decode cX2_lastHolder 5 = .ok (.invokestatic 55, 3) := by decide +kernel
theorem dX2_lastHolder_8 : decode cX2_lastHolder 8 = .ok (.iconst 1, 1) := by decide +kernel
theorem dX2_lastHolder_9 : decode cX2_lastHolder 9 = .ok (.isub, 1) := by decide +kernel
theorem dX2_lastHolder_10 : decode cX2_lastHolder 10 = .ok (.istore_n 3, 1) := by decide +kernel
theorem dX2_lastHolder_11 : decode cX2_lastHolder 11 = .ok (.iload_n 3, 1) := by decide +kernel
theorem dX2_lastHolder_12 : decode cX2_lastHolder 12 = .ok (.ifCond .lt 30, 3) := by decide +kernel
theorem dX2_lastHolder_15 : decode cX2_lastHolder 15 = .ok (.iload_n 2, 1) := by decide +kernel
theorem dX2_lastHolder_16 : decode cX2_lastHolder 16 = .ok (.aload_n 0, 1) := by decide +kernel
theorem dX2_lastHolder_17 : decode cX2_lastHolder 17 = .ok (.getfield 21, 3) := by decide +kernel
theorem dX2_lastHolder_20 : decode cX2_lastHolder 20 = .ok (.iload_n 3, 1) := by decide +kernel
theorem dX2_lastHolder_21 : decode cX2_lastHolder 21 = .ok (.iaload, 1) := by decide +kernel
theorem dX2_lastHolder_22 : decode cX2_lastHolder 22 = .ok (.aload_n 0, 1) := by decide +kernel
theorem dX2_lastHolder_23 : decode cX2_lastHolder 23 = .ok (.getfield 25, 3) := by decide +kernel
theorem dX2_lastHolder_26 : decode cX2_lastHolder 26 = .ok (.iload_n 3, 1) := by decide +kernel
theorem dX2_lastHolder_27 : decode cX2_lastHolder 27 = .ok (.iaload, 1) := by decide +kernel
theorem dX2_lastHolder_28 : decode cX2_lastHolder 28 = .ok (.invokestatic 52, 3) := by decide +kernel
theorem dX2_lastHolder_31 : decode cX2_lastHolder 31 = .ok (.ifCond .eq 5, 3) := by decide +kernel
theorem dX2_lastHolder_34 : decode cX2_lastHolder 34 = .ok (.iload_n 3, 1) := by decide +kernel
theorem dX2_lastHolder_35 : decode cX2_lastHolder 35 = .ok (.ireturn, 1) := by decide +kernel
theorem dX2_lastHolder_36 : decode cX2_lastHolder 36 = .ok (.iinc 3 (-1), 3) := by decide +kernel
theorem dX2_lastHolder_39 : decode cX2_lastHolder 39 = .ok (.goto (-28), 3) := by decide +kernel
theorem dX2_lastHolder_42 : decode cX2_lastHolder 42 = .ok (.iconst (-1), 1) := by decide +kernel
theorem dX2_lastHolder_43 : decode cX2_lastHolder 43 = .ok (.ireturn, 1) := by decide +kernel
set_option maxRecDepth 20000 in
theorem ggX2_goalAmong_X2_lastHolder : GoodIn wsX2_goalAmong wsX2_lastHolder := goodIn_r _ [6, 7, 8, 9, 10, 11, 12, 13, 14, 15, 16, 17, 18, 19, 20, 21, 22, 23, 24, 25] (by decide +kernel) (by decide +kernel)
set_option maxRecDepth 20000 in
theorem gX2_goalAmong_X2_lastHolder : GoodIn wsX2_goalAmong (wsV RX2 58 RX2 yX2_lastHolder wsX2_lastHolder) := goodIn_app (goodIn_of _ (by decide +kernel)) ggX2_goalAmong_X2_lastHolder
theorem dX2_goalAmong_0 : decode cX2_goalAmong 0 = .ok (.aload_n 0, 1) := by decide +kernel
theorem dX2_goalAmong_1 : decode cX2_goalAmong 1 = .ok (.iload_n 1, 1) := by decide +kernel
theorem dX2_goalAmong_2 : decode cX2_goalAmong 2 = .ok (.iload_n 2, 1) := by decide +kernel
theorem dX2_goalAmong_3 : decode cX2_goalAmong 3 = .ok (.invokevirtual 58, 3) := by decide +kernel
theorem dX2_goalAmong_6 : decode cX2_goalAmong 6 = .ok (.istore_n 3, 1) := by decide +kernel
theorem dX2_goalAmong_7 : decode cX2_goalAmong 7 = .ok (.iload_n 3, 1) := by decide +kernel
theorem dX2_goalAmong_8 : decode cX2_goalAmong 8 = .ok (.iconst (-1), 1) := by decide +kernel
theorem dX2_goalAmong_9 : decode cX2_goalAmong 9 = .ok (.if_icmp .ne 8, 3) := by decide +kernel
theorem dX2_goalAmong_12 : decode cX2_goalAmong 12 = .ok (.bipush 16, 2) := by decide +kernel
theorem dX2_goalAmong_14 : decode cX2_goalAmong 14 = .ok (.goto 9, 3) := by decide +kernel
theorem dX2_goalAmong_17 : decode cX2_goalAmong 17 = .ok (.aload_n 0, 1) := by decide +kernel
theorem dX2_goalAmong_18 : decode cX2_goalAmong 18 = .ok (.getfield 28, 3) := by decide +kernel
theorem dX2_goalAmong_21 : decode cX2_goalAmong 21 = .ok (.iload_n 3, 1) := by decide +kernel
theorem dX2_goalAmong_22 : decode cX2_goalAmong 22 = .ok (.iaload, 1) := by decide +kernel
theorem dX2_goalAmong_23 : decode cX2_goalAmong 23 = .ok (.ireturn, 1) := by decide +kernel
theorem dX2_clear_0 : decode cX2_clear 0 = .ok (.aload_n 0, 1) := by decide +kernel
theorem dX2_clear_1 : decode cX2_clear 1 = .ok (.iconst 0, 1) := by decide +kernel
theorem dX2_clear_2 : decode cX2_clear 2 = .ok (.putfield 39, 3) := by decide +kernel
theorem dX2_clear_5 : decode cX2_clear 5 = .ok (.return_, 1) := by decide +kernel
theorem dX2_append_0 : decode cX2_append 0 = .ok (.aload_n 0, 1) := by decide +kernel
theorem dX2_append_1 : decode cX2_append 1 = .ok (.getfield 39, 3) := by decide +kernel
theorem dX2_append_4 : decode cX2_append 4 = .ok (.aload_n 0, 1) := by decide +kernel
theorem dX2_append_5 : decode cX2_append 5 = .ok (.getfield 15, 3) := by decide +kernel
theorem dX2_append_8 : decode cX2_append 8 = .ok (.if_icmp .ge 43, 3) := by decide +kernel
theorem dX2_append_11 : decode cX2_append 11 = .ok (.aload_n 0, 1) := by decide +kernel
theorem dX2_append_12 : decode cX2_append 12 = .ok (.getfield 21, 3) := by decide +kernel
theorem dX2_append_15 : decode cX2_append 15 = .ok (.aload_n 0, 1) := by decide +kernel
theorem dX2_append_16 : decode cX2_append 16 = .ok (.getfield 39, 3) := by decide +kernel
theorem dX2_append_19 : decode cX2_append 19 = .ok (.iload_n 1, 1) := by decide +kernel
theorem dX2_append_20 : decode cX2_append 20 = .ok (.iastore, 1) := by decide +kernel
theorem dX2_append_21 : decode cX2_append 21 = .ok (.aload_n 0, 1) := by decide +kernel
theorem dX2_append_22 : decode cX2_append 22 = .ok (.getfield 25, 3) := by decide +kernel
theorem dX2_append_25 : decode cX2_append 25 = .ok (.aload_n 0, 1) := by decide +kernel
theorem dX2_append_26 : decode cX2_append 26 = .ok (.getfield 39, 3) := by decide +kernel
theorem dX2_append_29 : decode cX2_append 29 = .ok (.iload_n 2, 1) := by decide +kernel
theorem dX2_append_30 : decode cX2_append 30 = .ok (.iastore, 1) := by decide +kernel
theorem dX2_append_31 : decode cX2_append 31 = .ok (.aload_n 0, 1) := by decide +kernel
theorem dX2_append_32 : decode cX2_append 32 = .ok (.getfield 28, 3) := by decide +kernel
theorem dX2_append_35 : decode cX2_append 35 = .ok (.aload_n 0, 1) := by decide +kernel
theorem dX2_append_36 : decode cX2_append 36 = .ok (.getfield 39, 3) := by decide +kernel
theorem dX2_append_39 : decode cX2_append 39 = .ok (.iload_n 3, 1) := by decide +kernel
theorem dX2_append_40 : decode cX2_append 40 = .ok (.iastore, 1) := by decide +kernel
theorem dX2_append_41 : decode cX2_append 41 = .ok (.aload_n 0, 1) := by decide +kernel
theorem dX2_append_42 : decode cX2_append 42 = .ok (.dup, 1) := by decide +kernel
theorem dX2_append_43 : decode cX2_append 43 = .ok (.getfield 39, 3) := by decide +kernel
theorem dX2_append_46 : decode cX2_append 46 = .ok (.iconst 1, 1) := by decide +kernel
theorem dX2_append_47 : decode cX2_append 47 = .ok (.iadd, 1) := by decide +kernel
theorem dX2_append_48 : decode cX2_append 48 = .ok (.putfield 39, 3) := by decide +kernel
theorem dX2_append_51 : decode cX2_append 51 = .ok (.return_, 1) := by decide +kernel
set_option maxRecDepth 20000 in
theorem ggX2_insert_X2_write : GoodIn wsX2_insert wsX2_write := goodIn_r _ [10, 3, 4, 5, 11, 12, 13, 14, 15] (by decide +kernel) (by decide +kernel)
set_option maxRecDepth 20000 in
theorem gX2_insert_X2_write : GoodIn wsX2_insert (wsV RX2 61 RX2 yX2_write wsX2_write) := goodIn_app (goodIn_of _ (by decide +kernel)) ggX2_insert_X2_write
theorem dX2_insert_0 : decode cX2_insert 0 = .ok (.aload_n 0, 1) := by decide +kernel
theorem dX2_insert_1 : decode cX2_insert 1 = .ok (.getfield 39, 3) := by decide +kernel
theorem dX2_insert_4 : decode cX2_insert 4 = .ok (.aload_n 0, 1) := by decide +kernel
theorem dX2_insert_5 : decode cX2_insert 5 = .ok (.getfield 15, 3) := by decide +kernel
theorem dX2_insert_8 : decode cX2_insert 8 = .ok (.if_icmp .ge 15, 3) := by decide +kernel
theorem dX2_insert_11 : decode cX2_insert 11 = .ok (.iload_n 1, 1) := by decide +kernel
theorem dX2_insert_12 : decode cX2_insert 12 = .ok (.ifCond .lt 11, 3) := by decide +kernel
theorem dX2_insert_15 : decode cX2_insert 15 = .ok (.iload_n 1, 1) := by decide +kernel
theorem dX2_insert_16 : decode cX2_insert 16 = .ok (.aload_n 0, 1) := by decide +kernel
theorem dX2_insert_17 : decode cX2_insert 17 = .ok (.getfield 39, 3) := by decide +kernel
theorem dX2_insert_20 : decode cX2_insert 20 = .ok (.if_icmp .le 5, 3) := by decide +kernel
theorem dX2_insert_23 : decode cX2_insert 23 = .ok (.iconst 0, 1) := by decide +kernel
theorem dX2_insert_24 : decode cX2_insert 24 = .ok (.ireturn, 1) := by decide +kernel
theorem dX2_insert_25 : decode cX2_insert 25 = .ok (.aload_n 0, 1) := by decide +kernel
theorem dX2_insert_26 : decode cX2_insert 26 = .ok (.getfield 39, 3) := by decide +kernel
theorem dX2_insert_29 : decode cX2_insert 29 = .ok (.istore 5, 2) := by decide +kernel
theorem dX2_insert_31 : decode cX2_insert 31 = .ok (.iload 5, 2) := by decide +kernel
theorem dX2_insert_33 : decode cX2_insert 33 = .ok (.iload_n 1, 1) := by decide +kernel
theorem dX2_insert_34 : decode cX2_insert 34 = .ok (.if_icmp .le 42, 3) := by decide +kernel
theorem dX2_insert_37 : decode cX2_insert 37 = .ok (.aload_n 0, 1) := by decide +kernel
theorem dX2_insert_38 : decode cX2_insert 38 = .ok (.iload 5, 2) := by decide +kernel
theorem dX2_insert_40 : decode cX2_insert 40 = .ok (.aload_n 0, 1) := by decide +kernel
theorem dX2_insert_41 : decode cX2_insert 41 = .ok (.getfield 21, 3) := by decide +kernel
theorem dX2_insert_44 : decode cX2_insert 44 = .ok (.iload 5, 2) := by decide +kernel
theorem dX2_insert_46 : decode cX2_insert 46 = .ok (.iconst 1, 1) := by decide +kernel
theorem dX2_insert_47 : decode cX2_insert 47 = .ok (.isub, 1) := by decide +kernel
theorem dX2_insert_48 : decode cX2_insert 48 = .ok (.iaload, 1) := by decide +kernel
theorem dX2_insert_49 : decode cX2_insert 49 = .ok (.aload_n 0, 1) := by decide +kernel
theorem dX2_insert_50 : decode cX2_insert 50 = .ok (.getfield 25, 3) := by decide +kernel
theorem dX2_insert_53 : decode cX2_insert 53 = .ok (.iload 5, 2) := by decide +kernel
theorem dX2_insert_55 : decode cX2_insert 55 = .ok (.iconst 1, 1) := by decide +kernel
theorem dX2_insert_56 : decode cX2_insert 56 = .ok (.isub, 1) := by decide +kernel
theorem dX2_insert_57 : decode cX2_insert 57 = .ok (.iaload, 1) := by decide +kernel
theorem dX2_insert_58 : decode cX2_insert 58 = .ok (.aload_n 0, 1) := by decide +kernel
theorem dX2_insert_59 : decode cX2_insert 59 = .ok (.getfield 28, 3) := by decide +kernel
theorem dX2_insert_62 : decode cX2_insert 62 = .ok (.iload 5, 2) := by decide +kernel
theorem dX2_insert_64 : decode cX2_insert 64 = .ok (.iconst 1, 1) := by decide +kernel
theorem dX2_insert_65 : decode cX2_insert 65 = .ok (.isub, 1) := by decide +kernel
theorem dX2_insert_66 : decode cX2_insert 66 = .ok (.iaload, 1) := by decide +kernel
theorem dX2_insert_67 : decode cX2_insert 67 = .ok (.invokevirtual 61, 3) := by decide +kernel
theorem dX2_insert_70 : decode cX2_insert 70 = .ok (.iinc 5 (-1), 3) := by decide +kernel
theorem dX2_insert_73 : decode cX2_insert 73 = .ok (.goto (-42), 3) := by decide +kernel
theorem dX2_insert_76 : decode cX2_insert 76 = .ok (.aload_n 0, 1) := by decide +kernel
theorem dX2_insert_77 : decode cX2_insert 77 = .ok (.iload_n 1, 1) := by decide +kernel
theorem dX2_insert_78 : decode cX2_insert 78 = .ok (.iload_n 2, 1) := by decide +kernel
theorem dX2_insert_79 : decode cX2_insert 79 = .ok (.iload_n 3, 1) := by decide +kernel
theorem dX2_insert_80 : decode cX2_insert 80 = .ok (.iload 4, 2) := by decide +kernel
theorem dX2_insert_82 : decode cX2_insert 82 = .ok (.invokevirtual 61, 3) := by decide +kernel
theorem dX2_insert_85 : decode cX2_insert 85 = .ok (.aload_n 0, 1) := by decide +kernel
theorem dX2_insert_86 : decode cX2_insert 86 = .ok (.dup, 1) := by decide +kernel
theorem dX2_insert_87 : decode cX2_insert 87 = .ok (.getfield 39, 3) := by decide +kernel
theorem dX2_insert_90 : decode cX2_insert 90 = .ok (.iconst 1, 1) := by decide +kernel
theorem dX2_insert_91 : decode cX2_insert 91 = .ok (.iadd, 1) := by decide +kernel
theorem dX2_insert_92 : decode cX2_insert 92 = .ok (.putfield 39, 3) := by decide +kernel
theorem dX2_insert_95 : decode cX2_insert 95 = .ok (.iconst 1, 1) := by decide +kernel
theorem dX2_insert_96 : decode cX2_insert 96 = .ok (.ireturn, 1) := by decide +kernel
set_option maxRecDepth 20000 in
theorem ggX2_removeAt_X2_write : GoodIn wsX2_removeAt wsX2_write := goodIn_r _ [9, 2, 3, 4, 10, 11, 12, 13, 14] (by decide +kernel) (by decide +kernel)
set_option maxRecDepth 20000 in
theorem gX2_removeAt_X2_write : GoodIn wsX2_removeAt (wsV RX2 61 RX2 yX2_write wsX2_write) := goodIn_app (goodIn_of _ (by decide +kernel)) ggX2_removeAt_X2_write
theorem dX2_removeAt_0 : decode cX2_removeAt 0 = .ok (.iload_n 1, 1) := by decide +kernel
theorem dX2_removeAt_1 : decode cX2_removeAt 1 = .ok (.ifCond .lt 11, 3) := by decide +kernel
theorem dX2_removeAt_4 : decode cX2_removeAt 4 = .ok (.iload_n 1, 1) := by decide +kernel
theorem dX2_removeAt_5 : decode cX2_removeAt 5 = .ok (.aload_n 0, 1) := by decide +kernel
theorem dX2_removeAt_6 : decode cX2_removeAt 6 = .ok (.getfield 39, 3) := by decide +kernel
theorem dX2_removeAt_9 : decode cX2_removeAt 9 = .ok (.if_icmp .lt 4, 3) := by decide +kernel
theorem dX2_removeAt_12 : decode cX2_removeAt 12 = .ok (.return_, 1) := by decide +kernel
theorem dX2_removeAt_13 : decode cX2_removeAt 13 = .ok (.aload_n 0, 1) := by decide +kernel
theorem dX2_removeAt_14 : decode cX2_removeAt 14 = .ok (.dup, 1) := by decide +kernel
theorem dX2_removeAt_15 : decode cX2_removeAt 15 = .ok (.getfield 39, 3) := by decide +kernel
theorem dX2_removeAt_18 : decode cX2_removeAt 18 = .ok (.iconst 1, 1) := by decide +kernel
theorem dX2_removeAt_19 : decode cX2_removeAt 19 = .ok (.isub, 1) := by decide +kernel
theorem dX2_removeAt_20 : decode cX2_removeAt 20 = .ok (.putfield 39, 3) := by decide +kernel
theorem dX2_removeAt_23 : decode cX2_removeAt 23 = .ok (.iload_n 1, 1) := by decide +kernel
theorem dX2_removeAt_24 : decode cX2_removeAt 24 = .ok (.istore_n 2, 1) := by decide +kernel
theorem dX2_removeAt_25 : decode cX2_removeAt 25 = .ok (.iload_n 2, 1) := by decide +kernel
theorem dX2_removeAt_26 : decode cX2_removeAt 26 = .ok (.aload_n 0, 1) := by decide +kernel
theorem dX2_removeAt_27 : decode cX2_removeAt 27 = .ok (.getfield 39, 3) := by decide +kernel
theorem dX2_removeAt_30 : decode cX2_removeAt 30 = .ok (.if_icmp .ge 38, 3) := by decide +kernel
theorem dX2_removeAt_33 : decode cX2_removeAt 33 = .ok (.aload_n 0, 1) := by decide +kernel
theorem dX2_removeAt_34 : decode cX2_removeAt 34 = .ok (.iload_n 2, 1) := by decide +kernel
theorem dX2_removeAt_35 : decode cX2_removeAt 35 = .ok (.aload_n 0, 1) := by decide +kernel
theorem dX2_removeAt_36 : decode cX2_removeAt 36 = .ok (.getfield 21, 3) := by decide +kernel
theorem dX2_removeAt_39 : decode cX2_removeAt 39 = .ok (.iload_n 2, 1) := by decide +kernel
theorem dX2_removeAt_40 : decode cX2_removeAt 40 = .ok (.iconst 1, 1) := by decide +kernel
theorem dX2_removeAt_41 : decode cX2_removeAt 41 = .ok (.iadd, 1) := by decide +kernel
theorem dX2_removeAt_42 : decode cX2_removeAt 42 = .ok (.iaload, 1) := by decide +kernel
theorem dX2_removeAt_43 : decode cX2_removeAt 43 = .ok (.aload_n 0, 1) := by decide +kernel
theorem dX2_removeAt_44 : decode cX2_removeAt 44 = .ok (.getfield 25, 3) := by decide +kernel
theorem dX2_removeAt_47 : decode cX2_removeAt 47 = .ok (.iload_n 2, 1) := by decide +kernel
theorem dX2_removeAt_48 : decode cX2_removeAt 48 = .ok (.iconst 1, 1) := by decide +kernel
theorem dX2_removeAt_49 : decode cX2_removeAt 49 = .ok (.iadd, 1) := by decide +kernel
theorem dX2_removeAt_50 : decode cX2_removeAt 50 = .ok (.iaload, 1) := by decide +kernel
theorem dX2_removeAt_51 : decode cX2_removeAt 51 = .ok (.aload_n 0, 1) := by decide +kernel
theorem dX2_removeAt_52 : decode cX2_removeAt 52 = .ok (.getfield 28, 3) := by decide +kernel
theorem dX2_removeAt_55 : decode cX2_removeAt 55 = .ok (.iload_n 2, 1) := by decide +kernel
theorem dX2_removeAt_56 : decode cX2_removeAt 56 = .ok (.iconst 1, 1) := by decide +kernel
theorem dX2_removeAt_57 : decode cX2_removeAt 57 = .ok (.iadd, 1) := by decide +kernel
theorem dX2_removeAt_58 : decode cX2_removeAt 58 = .ok (.iaload, 1) := by decide +kernel
theorem dX2_removeAt_59 : decode cX2_removeAt 59 = .ok (.invokevirtual 61, 3) := by decide +kernel
theorem dX2_removeAt_62 : decode cX2_removeAt 62 = .ok (.iinc 2 1, 3) := by decide +kernel
theorem dX2_removeAt_65 : decode cX2_removeAt 65 = .ok (.goto (-40), 3) := by decide +kernel
theorem dX2_removeAt_68 : decode cX2_removeAt 68 = .ok (.return_, 1) := by decide +kernel
set_option maxRecDepth 20000 in
theorem ggX2_become_X2_write : GoodIn wsX2_become wsX2_write := goodIn_r _ [14, 7, 8, 9, 15, 16, 17, 18, 19] (by decide +kernel) (by decide +kernel)
set_option maxRecDepth 20000 in
theorem gX2_become_X2_write : GoodIn wsX2_become (wsV RX2 61 RX2 yX2_write wsX2_write) := goodIn_app (goodIn_of _ (by decide +kernel)) ggX2_become_X2_write
theorem dX2_become_0 : decode cX2_become 0 = .ok (.aload_n 1, 1) := by decide +kernel
theorem dX2_become_1 : decode cX2_become 1 = .ok (.getfield 39, 3) := by decide +kernel
theorem dX2_become_4 : decode cX2_become 4 = .ok (.aload_n 0, 1) := by decide +kernel
theorem dX2_become_5 : decode cX2_become 5 = .ok (.getfield 15, 3) := by decide +kernel
theorem dX2_become_8 : decode cX2_become 8 = .ok (.invokestatic 55, 3) := by decide +kernel
theorem dX2_become_11 : decode cX2_become 11 = .ok (.istore_n 2, 1) := by decide +kernel
theorem dX2_become_12 : decode cX2_become 12 = .ok (.iconst 0, 1) := by decide +kernel
theorem dX2_become_13 : decode cX2_become 13 = .ok (.istore_n 3, 1) := by decide +kernel
theorem dX2_become_14 : decode cX2_become 14 = .ok (.iload_n 3, 1) := by decide +kernel
theorem dX2_become_15 : decode cX2_become 15 = .ok (.iload_n 2, 1) := by decide +kernel
theorem dX2_become_16 : decode cX2_become 16 = .ok (.if_icmp .ge 32, 3) := by decide +kernel
theorem dX2_become_19 : decode cX2_become 19 = .ok (.aload_n 0, 1) := by decide +kernel
theorem dX2_become_20 : decode cX2_become 20 = .ok (.iload_n 3, 1) := by decide +kernel
theorem dX2_become_21 : decode cX2_become 21 = .ok (.aload_n 1, 1) := by decide +kernel
theorem dX2_become_22 : decode cX2_become 22 = .ok (.getfield 21, 3) := by decide +kernel
theorem dX2_become_25 : decode cX2_become 25 = .ok (.iload_n 3, 1) := by decide +kernel
theorem dX2_become_26 : decode cX2_become 26 = .ok (.iaload, 1) := by decide +kernel
theorem dX2_become_27 : decode cX2_become 27 = .ok (.aload_n 1, 1) := by decide +kernel
theorem dX2_become_28 : decode cX2_become 28 = .ok (.getfield 25, 3) := by decide +kernel
theorem dX2_become_31 : decode cX2_become 31 = .ok (.iload_n 3, 1) := by decide +kernel
theorem dX2_become_32 : decode cX2_become 32 = .ok (.iaload, 1) := by decide +kernel
theorem dX2_become_33 : decode cX2_become 33 = .ok (.aload_n 1, 1) := by decide +kernel
theorem dX2_become_34 : decode cX2_become 34 = .ok (.getfield 28, 3) := by decide +kernel
theorem dX2_become_37 : decode cX2_become 37 = .ok (.iload_n 3, 1) := by decide +kernel
theorem dX2_become_38 : decode cX2_become 38 = .ok (.iaload, 1) := by decide +kernel
theorem dX2_become_39 : decode cX2_become 39 = .ok (.invokevirtual 61, 3) := by decide +kernel
theorem dX2_become_42 : decode cX2_become 42 = .ok (.iinc 3 1, 3) := by decide +kernel
theorem dX2_become_45 : decode cX2_become 45 = .ok (.goto (-31), 3) := by decide +kernel
theorem dX2_become_48 : decode cX2_become 48 = .ok (.aload_n 0, 1) := by decide +kernel
theorem dX2_become_49 : decode cX2_become 49 = .ok (.iload_n 2, 1) := by decide +kernel
theorem dX2_become_50 : decode cX2_become 50 = .ok (.putfield 39, 3) := by decide +kernel
theorem dX2_become_53 : decode cX2_become 53 = .ok (.return_, 1) := by decide +kernel
theorem dX2_write_0 : decode cX2_write 0 = .ok (.aload_n 0, 1) := by decide +kernel
theorem dX2_write_1 : decode cX2_write 1 = .ok (.getfield 21, 3) := by decide +kernel
theorem dX2_write_4 : decode cX2_write 4 = .ok (.iload_n 1, 1) := by decide +kernel
theorem dX2_write_5 : decode cX2_write 5 = .ok (.iload_n 2, 1) := by decide +kernel
theorem dX2_write_6 : decode cX2_write 6 = .ok (.iastore, 1) := by decide +kernel
theorem dX2_write_7 : decode cX2_write 7 = .ok (.aload_n 0, 1) := by decide +kernel
theorem dX2_write_8 : decode cX2_write 8 = .ok (.getfield 25, 3) := by decide +kernel
theorem dX2_write_11 : decode cX2_write 11 = .ok (.iload_n 1, 1) := by decide +kernel
theorem dX2_write_12 : decode cX2_write 12 = .ok (.iload_n 3, 1) := by decide +kernel
theorem dX2_write_13 : decode cX2_write 13 = .ok (.iastore, 1) := by decide +kernel
theorem dX2_write_14 : decode cX2_write 14 = .ok (.aload_n 0, 1) := by decide +kernel
theorem dX2_write_15 : decode cX2_write 15 = .ok (.getfield 28, 3) := by decide +kernel
theorem dX2_write_18 : decode cX2_write 18 = .ok (.iload_n 1, 1) := by decide +kernel
theorem dX2_write_19 : decode cX2_write 19 = .ok (.iload 4, 2) := by decide +kernel
theorem dX2_write_21 : decode cX2_write 21 = .ok (.iastore, 1) := by decide +kernel
theorem dX2_write_22 : decode cX2_write 22 = .ok (.return_, 1) := by decide +kernel
set_option maxRecDepth 20000 in
theorem ggX2_merge_X2_clear : GoodIn wsX2_merge wsX2_clear := goodIn_r _ [8, 1, 48, 49, 50, 51, 52] (by decide +kernel) (by decide +kernel)
set_option maxRecDepth 20000 in
theorem gX2_merge_X2_clear : GoodIn wsX2_merge (wsV RX2 65 RX2 yX2_clear wsX2_clear) := goodIn_app (goodIn_of _ (by decide +kernel)) ggX2_merge_X2_clear
set_option maxRecDepth 20000 in
theorem ggX2_merge_X2_isAhead : GoodIn wsX2_merge wsX2_isAhead := goodIn_r _ [12, 2, 3, 13, 14, 15, 16, 48, 49, 50, 51, 52] (by decide +kernel) (by decide +kernel)
set_option maxRecDepth 20000 in
theorem gX2_merge_X2_isAhead : GoodIn wsX2_merge (wsV RX2 49 RX2 yX2_isAhead wsX2_isAhead) := goodIn_app (goodIn_of _ (by decide +kernel)) ggX2_merge_X2_isAhead
set_option maxRecDepth 20000 in
theorem ggX2_merge_X2_isAt : GoodIn wsX2_merge wsX2_isAt := goodIn_r _ [20, 1, 2, 3, 48, 49, 50, 51, 52] (by decide +kernel) (by decide +kernel)
set_option maxRecDepth 20000 in
theorem gX2_merge_X2_isAt : GoodIn wsX2_merge (wsV RX2 45 RX2 yX2_isAt wsX2_isAt) := goodIn_app (goodIn_of _ (by decide +kernel)) ggX2_merge_X2_isAt
set_option maxRecDepth 20000 in
theorem ggX2_merge_X2_goalAmong : GoodIn wsX2_merge wsX2_goalAmong := goodIn_r _ [24, 25, 26, 27, 28, 7, 29, 1, 30, 31, 32, 33, 2, 3, 34, 14, 35, 36, 37, 38, 39, 48, 49, 50, 51, 52] (by decide +kernel) (by decide +kernel)
set_option maxRecDepth 20000 in
theorem gX2_merge_X2_goalAmong : GoodIn wsX2_merge (wsV RX2 68 RX2 yX2_goalAmong wsX2_goalAmong) := goodIn_app (goodIn_of _ (by decide +kernel)) ggX2_merge_X2_goalAmong
set_option maxRecDepth 20000 in
theorem ggX2_merge_X2_mixed : GoodIn wsX2_merge wsX2_mixed := goodIn_r _ [42] (by decide +kernel) (by decide +kernel)
set_option maxRecDepth 20000 in
theorem gX2_merge_X2_mixed : GoodIn wsX2_merge (va_wsS RX2 71 yX2_mixed wsX2_mixed) := goodIn_app (goodIn_of _ (by decide +kernel)) ggX2_merge_X2_mixed
set_option maxRecDepth 20000 in
theorem ggX2_merge_X2_append : GoodIn wsX2_merge wsX2_append := goodIn_r _ [46, 1, 47, 2, 3, 25, 48, 49, 50, 51, 52] (by decide +kernel) (by decide +kernel)
set_option maxRecDepth 20000 in
theorem gX2_merge_X2_append : GoodIn wsX2_merge (wsV RX2 75 RX2 yX2_append wsX2_append) := goodIn_app (goodIn_of _ (by decide +kernel)) ggX2_merge_X2_append
theorem dX2_merge_0 : decode cX2_merge 0 = .ok (.aload_n 0, 1) := by decide +kernel
theorem dX2_merge_1 : decode cX2_merge 1 = .ok (.invokevirtual 65, 3) := by decide +kernel
theorem dX2_merge_4 : decode cX2_merge 4 = .ok (.iconst 0, 1) := by decide +kernel
theorem dX2_merge_5 : decode cX2_merge 5 = .ok (.istore 4, 2) := by decide +kernel
theorem dX2_merge_7 : decode cX2_merge 7 = .ok (.iconst 0, 1) := by decide +kernel
theorem dX2_merge_8 : decode cX2_merge 8 = .ok (.istore 5, 2) := by decide +kernel
theorem dX2_merge_10 : decode cX2_merge 10 = .ok (.iconst 0, 1) := by decide +kernel
theorem dX2_merge_11 : decode cX2_merge 11 = .ok (.istore 6, 2) := by decide +kernel
theorem dX2_merge_13 : decode cX2_merge 13 = .ok (.iload 6, 2) := by decide +kernel
theorem dX2_merge_15 : decode cX2_merge 15 = .ok (.sipush 128, 3) := by decide +kernel
theorem dX2_merge_18 : decode cX2_merge 18 = .ok (.if_icmp .ge 183, 3) := by decide +kernel
theorem dX2_merge_21 : decode cX2_merge 21 = .ok (.iload 4, 2) := by decide +kernel
theorem dX2_merge_23 : decode cX2_merge 23 = .ok (.aload_n 1, 1) := by decide +kernel
theorem dX2_merge_24 : decode cX2_merge 24 = .ok (.getfield 39, 3) := by decide +kernel
theorem dX2_merge_27 : decode cX2_merge 27 = .ok (.if_icmp .lt 12, 3) := by decide +kernel
theorem dX2_merge_30 : decode cX2_merge 30 = .ok (.iload 5, 2) := by decide +kernel
theorem dX2_merge_32 : decode cX2_merge 32 = .ok (.aload_n 2, 1) := by decide +kernel
theorem dX2_merge_33 : decode cX2_merge 33 = .ok (.getfield 39, 3) := by decide +kernel
theorem dX2_merge_36 : decode cX2_merge 36 = .ok (.if_icmp .ge 165, 3) := by decide +kernel
theorem dX2_merge_39 : decode cX2_merge 39 = .ok (.iload 5, 2) := by decide +kernel
theorem dX2_merge_41 : decode cX2_merge 41 = .ok (.aload_n 2, 1) := by decide +kernel
theorem dX2_merge_42 : decode cX2_merge 42 = .ok (.getfield 39, 3) := by decide +kernel
theorem dX2_merge_45 : decode cX2_merge 45 = .ok (.if_icmp .ge 35, 3) := by decide +kernel
theorem dX2_merge_48 : decode cX2_merge 48 = .ok (.iload 4, 2) := by decide +kernel
theorem dX2_merge_50 : decode cX2_merge 50 = .ok (.aload_n 1, 1) := by decide +kernel
theorem dX2_merge_51 : decode cX2_merge 51 = .ok (.getfield 39, 3) := by decide +kernel
theorem dX2_merge_54 : decode cX2_merge 54 = .ok (.if_icmp .ge 30, 3) := by decide +kernel
theorem dX2_merge_57 : decode cX2_merge 57 = .ok (.aload_n 2, 1) := by decide +kernel
theorem dX2_merge_58 : decode cX2_merge 58 = .ok (.iload 5, 2) := by decide +kernel
theorem dX2_merge_60 : decode cX2_merge 60 = .ok (.aload_n 1, 1) := by decide +kernel
theorem dX2_merge_61 : decode cX2_merge 61 = .ok (.getfield 21, 3) := by decide +kernel
theorem dX2_merge_64 : decode cX2_merge 64 = .ok (.iload 4, 2) := by decide +kernel
theorem dX2_merge_66 : decode cX2_merge 66 = .ok (.iaload, 1) := by decide +kernel
theorem dX2_merge_67 : decode cX2_merge 67 = .ok (.aload_n 1, 1) := by decide +kernel
theorem dX2_merge_68 : decode cX2_merge 68 = .ok (.getfield 25, 3) := by decide +kernel
theorem dX2_merge_71 : decode cX2_merge 71 = .ok (.iload 4, 2) := by decide +kernel
theorem dX2_merge_73 : decode cX2_merge 73 = .ok (.iaload, 1) := by decide +kernel
theorem dX2_merge_74 : decode cX2_merge 74 = .ok (.invokevirtual 49, 3) := by decide +kernel
theorem dX2_merge_77 : decode cX2_merge 77 = .ok (.ifCond .ne 7, 3) := by decide +kernel
theorem dX2_merge_80 : decode cX2_merge 80 = .ok (.iconst 1, 1) := by decide +kernel
theorem dX2_merge_81 : decode cX2_merge 81 = .ok (.goto 4, 3) := by decide +kernel
theorem dX2_merge_84 : decode cX2_merge 84 = .ok (.iconst 0, 1) := by decide +kernel
theorem dX2_merge_85 : decode cX2_merge 85 = .ok (.istore 7, 2) := by decide +kernel
theorem dX2_merge_87 : decode cX2_merge 87 = .ok (.iload 7, 2) := by decide +kernel
theorem dX2_merge_89 : decode cX2_merge 89 = .ok (.ifCond .eq 13, 3) := by decide +kernel
theorem dX2_merge_92 : decode cX2_merge 92 = .ok (.aload_n 1, 1) := by decide +kernel
theorem dX2_merge_93 : decode cX2_merge 93 = .ok (.getfield 21, 3) := by decide +kernel
theorem dX2_merge_96 : decode cX2_merge 96 = .ok (.iload 4, 2) := by decide +kernel
theorem dX2_merge_98 : decode cX2_merge 98 = .ok (.iaload, 1) := by decide +kernel
theorem dX2_merge_99 : decode cX2_merge 99 = .ok (.goto 10, 3) := by decide +kernel
theorem dX2_merge_102 : decode cX2_merge 102 = .ok (.aload_n 2, 1) := by decide +kernel
theorem dX2_merge_103 : decode cX2_merge 103 = .ok (.getfield 21, 3) := by decide +kernel
theorem dX2_merge_106 : decode cX2_merge 106 = .ok (.iload 5, 2) := by decide +kernel
theorem dX2_merge_108 : decode cX2_merge 108 = .ok (.iaload, 1) := by decide +kernel
theorem dX2_merge_109 : decode cX2_merge 109 = .ok (.istore 8, 2) := by decide +kernel
theorem dX2_merge_111 : decode cX2_merge 111 = .ok (.iload 7, 2) := by decide +kernel
theorem dX2_merge_113 : decode cX2_merge 113 = .ok (.ifCond .eq 13, 3) := by decide +kernel
theorem dX2_merge_116 : decode cX2_merge 116 = .ok (.aload_n 1, 1) := by decide +kernel
theorem dX2_merge_117 : decode cX2_merge 117 = .ok (.getfield 25, 3) := by decide +kernel
theorem dX2_merge_120 : decode cX2_merge 120 = .ok (.iload 4, 2) := by decide +kernel
theorem dX2_merge_122 : decode cX2_merge 122 = .ok (.iaload, 1) := by decide +kernel
theorem dX2_merge_123 : decode cX2_merge 123 = .ok (.goto 10, 3) := by decide +kernel
theorem dX2_merge_126 : decode cX2_merge 126 = .ok (.aload_n 2, 1) := by decide +kernel
theorem dX2_merge_127 : decode cX2_merge 127 = .ok (.getfield 25, 3) := by decide +kernel
theorem dX2_merge_130 : decode cX2_merge 130 = .ok (.iload 5, 2) := by decide +kernel
theorem dX2_merge_132 : decode cX2_merge 132 = .ok (.iaload, 1) := by decide +kernel
theorem dX2_merge_133 : decode cX2_merge 133 = .ok (.istore 9, 2) := by decide +kernel
theorem dX2_merge_135 : decode cX2_merge 135 = .ok (.aload_n 1, 1) := by decide +kernel
theorem dX2_merge_136 : decode cX2_merge 136 = .ok (.iload 4, 2) := by decide +kernel
theorem dX2_merge_138 : decode cX2_merge 138 = .ok (.iload 8, 2) := by decide +kernel
theorem dX2_merge_140 : decode cX2_merge 140 = .ok (.iload 9, 2) := by decide +kernel
theorem dX2_merge_142 : decode cX2_merge 142 = .ok (.invokevirtual 45, 3) := by decide +kernel
theorem dX2_merge_145 : decode cX2_merge 145 = .ok (.ifCond .eq 6, 3) := by decide +kernel
theorem dX2_merge_148 : decode cX2_merge 148 = .ok (.iinc 4 1, 3) := by decide +kernel
theorem dX2_merge_151 : decode cX2_merge 151 = .ok (.aload_n 2, 1) := by decide +kernel
theorem dX2_merge_152 : decode cX2_merge 152 = .ok (.iload 5, 2) := by decide +kernel
theorem dX2_merge_154 : decode cX2_merge 154 = .ok (.iload 8, 2) := by decide +kernel
theorem dX2_merge_156 : decode cX2_merge 156 = .ok (.iload 9, 2) := by decide +kernel
theorem dX2_merge_158 : decode cX2_merge 158 = .ok (.invokevirtual 45, 3) := by decide +kernel
theorem dX2_merge_161 : decode cX2_merge 161 = .ok (.ifCond .eq 6, 3) := by decide +kernel
theorem dX2_merge_164 : decode cX2_merge 164 = .ok (.iinc 5 1, 3) := by decide +kernel
theorem dX2_merge_167 : decode cX2_merge 167 = .ok (.aload_n 0, 1) := by decide +kernel
theorem dX2_merge_168 : decode cX2_merge 168 = .ok (.iload 8, 2) := by decide +kernel
theorem dX2_merge_170 : decode cX2_merge 170 = .ok (.iload 9, 2) := by decide +kernel
theorem dX2_merge_172 : decode cX2_merge 172 = .ok (.iload_n 3, 1) := by decide +kernel
theorem dX2_merge_173 : decode cX2_merge 173 = .ok (.aload_n 1, 1) := by decide +kernel
theorem dX2_merge_174 : decode cX2_merge 174 = .ok (.iload 4, 2) := by decide +kernel
theorem dX2_merge_176 : decode cX2_merge 176 = .ok (.iload 8, 2) := by decide +kernel
theorem dX2_merge_178 : decode cX2_merge 178 = .ok (.invokevirtual 68, 3) := by decide +kernel
theorem dX2_merge_181 : decode cX2_merge 181 = .ok (.aload_n 2, 1) := by decide +kernel
theorem dX2_merge_182 : decode cX2_merge 182 = .ok (.iload 5, 2) := by decide +kernel
theorem dX2_merge_184 : decode cX2_merge 184 = .ok (.iload 8, 2) := by decide +kernel
theorem dX2_merge_186 : decode cX2_merge 186 = .ok (.invokevirtual 68, 3) := by decide +kernel
theorem dX2_merge_189 : decode cX2_merge 189 = .ok (.invokestatic 71, 3) := by decide +kernel
theorem dX2_merge_192 : decode cX2_merge 192 = .ok (.invokevirtual 75, 3) := by decide +kernel
theorem dX2_merge_195 : decode cX2_merge 195 = .ok (.iinc 6 1, 3) := by decide +kernel
theorem dX2_merge_198 : decode cX2_merge 198 = .ok (.goto (-185), 3) := by decide +kernel
theorem dX2_merge_201 : decode cX2_merge 201 = .ok (.return_, 1) := by decide +kernel
theorem dX2_mixed_0 : decode cX2_mixed 0 = .ok (.iload_n 0, 1) := by decide +kernel
theorem dX2_mixed_1 : decode cX2_mixed 1 = .ok (.ifCond .ne 15, 3) := by decide +kernel
theorem dX2_mixed_4 : decode cX2_mixed 4 = .ok (.iload_n 1, 1) := by decide +kernel
theorem dX2_mixed_5 : decode cX2_mixed 5 = .ok (.bipush 16, 2) := by decide +kernel
theorem dX2_mixed_7 : decode cX2_mixed 7 = .ok (.if_icmp .eq 7, 3) := by decide +kernel
theorem dX2_mixed_10 : decode cX2_mixed 10 = .ok (.iload_n 1, 1) := by decide +kernel
theorem dX2_mixed_11 : decode cX2_mixed 11 = .ok (.goto 4, 3) := by decide +kernel
theorem dX2_mixed_14 : decode cX2_mixed 14 = .ok (.iload_n 2, 1) := by decide +kernel
theorem dX2_mixed_15 : decode cX2_mixed 15 = .ok (.ireturn, 1) := by decide +kernel
theorem dX2_mixed_16 : decode cX2_mixed 16 = .ok (.iload_n 0, 1) := by decide +kernel
theorem dX2_mixed_17 : decode cX2_mixed 17 = .ok (.iconst 1, 1) := by decide +kernel
theorem dX2_mixed_18 : decode cX2_mixed 18 = .ok (.if_icmp .ne 15, 3) := by decide +kernel
theorem dX2_mixed_21 : decode cX2_mixed 21 = .ok (.iload_n 1, 1) := by decide +kernel
theorem dX2_mixed_22 : decode cX2_mixed 22 = .ok (.iload_n 2, 1) := by decide +kernel
theorem dX2_mixed_23 : decode cX2_mixed 23 = .ok (.if_icmp .ne 7, 3) := by decide +kernel
theorem dX2_mixed_26 : decode cX2_mixed 26 = .ok (.iload_n 1, 1) := by decide +kernel
theorem dX2_mixed_27 : decode cX2_mixed 27 = .ok (.goto 5, 3) := by decide +kernel
theorem dX2_mixed_30 : decode cX2_mixed 30 = .ok (.bipush 16, 2) := by decide +kernel
theorem dX2_mixed_32 : decode cX2_mixed 32 = .ok (.ireturn, 1) := by decide +kernel
theorem dX2_mixed_33 : decode cX2_mixed 33 = .ok (.iload_n 2, 1) := by decide +kernel
theorem dX2_mixed_34 : decode cX2_mixed 34 = .ok (.bipush 16, 2) := by decide +kernel
theorem dX2_mixed_36 : decode cX2_mixed 36 = .ok (.if_icmp .ne 7, 3) := by decide +kernel
theorem dX2_mixed_39 : decode cX2_mixed 39 = .ok (.iload_n 1, 1) := by decide +kernel
theorem dX2_mixed_40 : decode cX2_mixed 40 = .ok (.goto 5, 3) := by decide +kernel
theorem dX2_mixed_43 : decode cX2_mixed 43 = .ok (.bipush 16, 2) := by decide +kernel
theorem dX2_mixed_45 : decode cX2_mixed 45 = .ok (.ireturn, 1) := by decide +kernel
set_option maxRecDepth 20000 in
theorem ggX2_commonBits_J6_numberOfLeadingZeros_0f7a4 : GoodIn wsX2_commonBits wsJ6_numberOfLeadingZeros_0f7a4 := goodIn_r _ [10, 11] (by decide +kernel) (by decide +kernel)
set_option maxRecDepth 20000 in
theorem gX2_commonBits_J6_numberOfLeadingZeros_0f7a4 : GoodIn wsX2_commonBits (va_wsS RX2 79 yJ6_numberOfLeadingZeros_0f7a4 wsJ6_numberOfLeadingZeros_0f7a4) := goodIn_app (goodIn_of _ (by decide +kernel)) ggX2_commonBits_J6_numberOfLeadingZeros_0f7a4
theorem dX2_commonBits_0 : decode cX2_commonBits 0 = .ok (.aload_n 0, 1) := by decide +kernel
theorem dX2_commonBits_1 : decode cX2_commonBits 1 = .ok (.getfield 25, 3) := by decide +kernel
theorem dX2_commonBits_4 : decode cX2_commonBits 4 = .ok (.iload_n 1, 1) := by decide +kernel
theorem dX2_commonBits_5 : decode cX2_commonBits 5 = .ok (.iaload, 1) := by decide +kernel
theorem dX2_commonBits_6 : decode cX2_commonBits 6 = .ok (.aload_n 0, 1) := by decide +kernel
theorem dX2_commonBits_7 : decode cX2_commonBits 7 = .ok (.getfield 21, 3) := by decide +kernel
theorem dX2_commonBits_10 : decode cX2_commonBits 10 = .ok (.iload_n 1, 1) := by decide +kernel
theorem dX2_commonBits_11 : decode cX2_commonBits 11 = .ok (.iaload, 1) := by decide +kernel
theorem dX2_commonBits_12 : decode cX2_commonBits 12 = .ok (.aload_n 0, 1) := by decide +kernel
theorem dX2_commonBits_13 : decode cX2_commonBits 13 = .ok (.getfield 21, 3) := by decide +kernel
theorem dX2_commonBits_16 : decode cX2_commonBits 16 = .ok (.iload_n 2, 1) := by decide +kernel
theorem dX2_commonBits_17 : decode cX2_commonBits 17 = .ok (.iaload, 1) := by decide +kernel
theorem dX2_commonBits_18 : decode cX2_commonBits 18 = .ok (.ixor, 1) := by decide +kernel
theorem dX2_commonBits_19 : decode cX2_commonBits 19 = .ok (.invokestatic 79, 3) := by decide +kernel
theorem dX2_commonBits_22 : decode cX2_commonBits 22 = .ok (.invokestatic 55, 3) := by decide +kernel
theorem dX2_commonBits_25 : decode cX2_commonBits 25 = .ok (.ireturn, 1) := by decide +kernel
set_option maxRecDepth 20000 in
theorem ggX2_firstHigh_X7_bitAt : GoodIn wsX2_firstHigh wsX7_bitAt := goodIn_r _ [4, 5] (by decide +kernel) (by decide +kernel)
set_option maxRecDepth 20000 in
theorem gX2_firstHigh_X7_bitAt_n84 : GoodIn wsX2_firstHigh (wsX7_bitAt) := ggX2_firstHigh_X7_bitAt
theorem dX2_firstHigh_0 : decode cX2_firstHigh 0 = .ok (.iload_n 1, 1) := by decide +kernel
theorem dX2_firstHigh_1 : decode cX2_firstHigh 1 = .ok (.istore 4, 2) := by decide +kernel
theorem dX2_firstHigh_3 : decode cX2_firstHigh 3 = .ok (.iload 4, 2) := by decide +kernel
theorem dX2_firstHigh_5 : decode cX2_firstHigh 5 = .ok (.iload_n 2, 1) := by decide +kernel
theorem dX2_firstHigh_6 : decode cX2_firstHigh 6 = .ok (.if_icmp .ge 27, 3) := by decide +kernel
theorem dX2_firstHigh_9 : decode cX2_firstHigh 9 = .ok (.aload_n 0, 1) := by decide +kernel
theorem dX2_firstHigh_10 : decode cX2_firstHigh 10 = .ok (.getfield 21, 3) := by decide +kernel
theorem dX2_firstHigh_13 : decode cX2_firstHigh 13 = .ok (.iload 4, 2) := by decide +kernel
theorem dX2_firstHigh_15 : decode cX2_firstHigh 15 = .ok (.iaload, 1) := by decide +kernel
theorem dX2_firstHigh_16 : decode cX2_firstHigh 16 = .ok (.iload_n 3, 1) := by decide +kernel
theorem dX2_firstHigh_17 : decode cX2_firstHigh 17 = .ok (.invokestatic 84, 3) := by decide +kernel
theorem dX2_firstHigh_20 : decode cX2_firstHigh 20 = .ok (.iand, 1) := by decide +kernel
theorem dX2_firstHigh_21 : decode cX2_firstHigh 21 = .ok (.ifCond .eq 6, 3) := by decide +kernel
theorem dX2_firstHigh_24 : decode cX2_firstHigh 24 = .ok (.iload 4, 2) := by decide +kernel
theorem dX2_firstHigh_26 : decode cX2_firstHigh 26 = .ok (.ireturn, 1) := by decide +kernel
theorem dX2_firstHigh_27 : decode cX2_firstHigh 27 = .ok (.iinc 4 1, 3) := by decide +kernel
theorem dX2_firstHigh_30 : decode cX2_firstHigh 30 = .ok (.goto (-27), 3) := by decide +kernel
theorem dX2_firstHigh_33 : decode cX2_firstHigh 33 = .ok (.iload_n 2, 1) := by decide +kernel
theorem dX2_firstHigh_34 : decode cX2_firstHigh 34 = .ok (.ireturn, 1) := by decide +kernel
theorem dX3_init_0 : decode cX3_init 0 = .ok (.aload_n 0, 1) := by decide +kernel
theorem dX3_init_1 : decode cX3_init 1 = .ok (.invokespecial 3, 3) := by decide +kernel
theorem dX3_init_4 : decode cX3_init 4 = .ok (.aload_n 0, 1) := by decide +kernel
theorem dX3_init_5 : decode cX3_init 5 = .ok (.sipush 129, 3) := by decide +kernel
theorem dX3_init_8 : decode cX3_init 8 = .ok (.newarray .long, 2) := by decide +kernel
theorem dX3_init_10 : decode cX3_init 10 = .ok (.putfield 11, 3) := by decide +kernel
theorem dX3_init_13 : decode cX3_init 13 = .ok (.aload_n 0, 1) := by decide +kernel
theorem dX3_init_14 : decode cX3_init 14 = .ok (.sipush 129, 3) := by decide +kernel
theorem dX3_init_17 : decode cX3_init 17 = .ok (.newarray .int, 2) := by decide +kernel
theorem dX3_init_19 : decode cX3_init 19 = .ok (.putfield 15, 3) := by decide +kernel
theorem dX3_init_22 : decode cX3_init 22 = .ok (.aload_n 0, 1) := by decide +kernel
theorem dX3_init_23 : decode cX3_init 23 = .ok (.bipush 33, 2) := by decide +kernel
theorem dX3_init_25 : decode cX3_init 25 = .ok (.newarray .int, 2) := by decide +kernel
theorem dX3_init_27 : decode cX3_init 27 = .ok (.putfield 19, 3) := by decide +kernel
theorem dX3_init_30 : decode cX3_init 30 = .ok (.return_, 1) := by decide +kernel
set_option maxRecDepth 20000 in
theorem ggX3_measure_X2_first : GoodIn wsX3_measure wsX2_first := goodIn_r _ [11, 12, 13, 14, 15, 16, 46, 47, 48, 49, 50] (by decide +kernel) (by decide +kernel)
set_option maxRecDepth 20000 in
theorem gX3_measure_X2_first : GoodIn wsX3_measure (wsV RX3 36 RX2 yX2_first wsX2_first) := goodIn_app (goodIn_of _ (by decide +kernel)) ggX3_measure_X2_first
set_option maxRecDepth 20000 in
theorem ggX3_measure_X3_reachStart : GoodIn wsX3_measure wsX3_reachStart := goodIn_r _ [21, 3, 5, 22, 23, 24, 25, 10, 26, 12, 27, 28, 14, 29, 30, 31, 32, 33, 13, 15, 16, 34, 35, 36, 20, 37, 2, 1, 38, 39, 40, 41, 42, 43, 44, 45, 46, 47, 48, 49, 50] (by decide +kernel) (by decide +kernel)
set_option maxRecDepth 20000 in
theorem gX3_measure_X3_reachStart : GoodIn wsX3_measure (wsV RX3 39 RX3 yX3_reachStart wsX3_reachStart) := goodIn_app (goodIn_of _ (by decide +kernel)) ggX3_measure_X3_reachStart
theorem dX3_measure_0 : decode cX3_measure 0 = .ok (.aload_n 0, 1) := by decide +kernel
theorem dX3_measure_1 : decode cX3_measure 1 = .ok (.iconst 0, 1) := by decide +kernel
theorem dX3_measure_2 : decode cX3_measure 2 = .ok (.putfield 22, 3) := by decide +kernel
theorem dX3_measure_5 : decode cX3_measure 5 = .ok (.aload_n 0, 1) := by decide +kernel
theorem dX3_measure_6 : decode cX3_measure 6 = .ok (.lconst 0, 1) := by decide +kernel
theorem dX3_measure_7 : decode cX3_measure 7 = .ok (.putfield 26, 3) := by decide +kernel
theorem dX3_measure_10 : decode cX3_measure 10 = .ok (.aload_n 0, 1) := by decide +kernel
theorem dX3_measure_11 : decode cX3_measure 11 = .ok (.iconst 0, 1) := by decide +kernel
theorem dX3_measure_12 : decode cX3_measure 12 = .ok (.putfield 30, 3) := by decide +kernel
theorem dX3_measure_15 : decode cX3_measure 15 = .ok (.iconst 0, 1) := by decide +kernel
theorem dX3_measure_16 : decode cX3_measure 16 = .ok (.istore_n 2, 1) := by decide +kernel
theorem dX3_measure_17 : decode cX3_measure 17 = .ok (.iload_n 2, 1) := by decide +kernel
theorem dX3_measure_18 : decode cX3_measure 18 = .ok (.aload_n 1, 1) := by decide +kernel
theorem dX3_measure_19 : decode cX3_measure 19 = .ok (.getfield 33, 3) := by decide +kernel
theorem dX3_measure_22 : decode cX3_measure 22 = .ok (.if_icmp .ge 48, 3) := by decide +kernel
theorem dX3_measure_25 : decode cX3_measure 25 = .ok (.aload_n 0, 1) := by decide +kernel
theorem dX3_measure_26 : decode cX3_measure 26 = .ok (.aload_n 1, 1) := by decide +kernel
theorem dX3_measure_27 : decode cX3_measure 27 = .ok (.aload_n 1, 1) := by decide +kernel
theorem dX3_measure_28 : decode cX3_measure 28 = .ok (.iload_n 2, 1) := by decide +kernel
theorem dX3_measure_29 : decode cX3_measure 29 = .ok (.invokevirtual 36, 3) := by decide +kernel
theorem dX3_measure_32 : decode cX3_measure 32 = .ok (.invokevirtual 39, 3) := by decide +kernel
theorem dX3_measure_35 : decode cX3_measure 35 = .ok (.aload_n 0, 1) := by decide +kernel
theorem dX3_measure_36 : decode cX3_measure 36 = .ok (.getfield 30, 3) := by decide +kernel
theorem dX3_measure_39 : decode cX3_measure 39 = .ok (.bipush 33, 2) := by decide +kernel
theorem dX3_measure_41 : decode cX3_measure 41 = .ok (.if_icmp .ge 23, 3) := by decide +kernel
theorem dX3_measure_44 : decode cX3_measure 44 = .ok (.aload_n 0, 1) := by decide +kernel
theorem dX3_measure_45 : decode cX3_measure 45 = .ok (.getfield 19, 3) := by decide +kernel
theorem dX3_measure_48 : decode cX3_measure 48 = .ok (.aload_n 0, 1) := by decide +kernel
theorem dX3_measure_49 : decode cX3_measure 49 = .ok (.getfield 30, 3) := by decide +kernel
theorem dX3_measure_52 : decode cX3_measure 52 = .ok (.iload_n 2, 1) := by decide +kernel
theorem dX3_measure_53 : decode cX3_measure 53 = .ok (.iastore, 1) := by decide +kernel
theorem dX3_measure_54 : decode cX3_measure 54 = .ok (.aload_n 0, 1) := by decide +kernel
theorem dX3_measure_55 : decode cX3_measure 55 = .ok (.dup, 1) := by decide +kernel
theorem dX3_measure_56 : decode cX3_measure 56 = .ok (.getfield 30, 3) := by decide +kernel
theorem dX3_measure_59 : decode cX3_measure 59 = .ok (.iconst 1, 1) := by decide +kernel
theorem dX3_measure_60 : decode cX3_measure 60 = .ok (.iadd, 1) := by decide +kernel
theorem dX3_measure_61 : decode cX3_measure 61 = .ok (.putfield 30, 3) := by decide +kernel
theorem dX3_measure_64 : decode cX3_measure 64 = .ok (.iinc 2 1, 3) := by decide +kernel
theorem dX3_measure_67 : decode cX3_measure 67 = .ok (.goto (-50), 3) := by decide +kernel
theorem dX3_measure_70 : decode cX3_measure 70 = .ok (.aload_n 0, 1) := by decide +kernel
theorem dX3_measure_71 : decode cX3_measure 71 = .ok (.aload_n 1, 1) := by decide +kernel
theorem dX3_measure_72 : decode cX3_measure 72 = .ok (.ldc2_w 43, 3) := by decide +kernel
theorem dX3_measure_75 : decode cX3_measure 75 = .ok (.invokevirtual 39, 3) := by decide +kernel
theorem dX3_measure_78 : decode cX3_measure 78 = .ok (.return_, 1) := by decide +kernel
set_option maxRecDepth 20000 in
theorem ggX3_reachStart_X2_last : GoodIn wsX3_reachStart wsX2_last := goodIn_r _ [8, 9, 10, 11, 12, 13, 14, 15, 16, 17, 18, 19, 20, 36, 37, 38, 39, 40] (by decide +kernel) (by decide +kernel)
set_option maxRecDepth 20000 in
theorem gX3_reachStart_X2_last : GoodIn wsX3_reachStart (wsV RX3 45 RX2 yX2_last wsX2_last) := goodIn_app (goodIn_of _ (by decide +kernel)) ggX3_reachStart_X2_last
set_option maxRecDepth 20000 in
theorem ggX3_reachStart_X3_reach : GoodIn wsX3_reachStart wsX3_reach := goodIn_r _ [25, 26, 27, 28, 29, 30, 31, 32, 33, 34, 35] (by decide +kernel) (by decide +kernel)
set_option maxRecDepth 20000 in
theorem gX3_reachStart_X3_reach : GoodIn wsX3_reachStart (wsV RX3 49 RX3 yX3_reach wsX3_reach) := goodIn_app (goodIn_of _ (by decide +kernel)) ggX3_reachStart_X3_reach
theorem dX3_reachStart_0 : decode cX3_reachStart 0 = .ok (.aload_n 0, 1) := by decide +kernel
theorem dX3_reachStart_1 : decode cX3_reachStart 1 = .ok (.getfield 30, 3) := by decide +kernel
theorem dX3_reachStart_4 : decode cX3_reachStart 4 = .ok (.ifCond .le 69, 3) := by decide +kernel
theorem dX3_reachStart_7 : decode cX3_reachStart 7 = .ok (.aload_n 1, 1) := by decide +kernel
theorem dX3_reachStart_8 : decode cX3_reachStart 8 = .ok (.aload_n 0, 1) := by decide +kernel
theorem dX3_reachStart_9 : decode cX3_reachStart 9 = .ok (.getfield 19, 3) := by decide +kernel
theorem dX3_reachStart_12 : decode cX3_reachStart 12 = .ok (.aload_n 0, 1) := by decide +kernel
theorem dX3_reachStart_13 : decode cX3_reachStart 13 = .ok (.getfield 30, 3) := by decide +kernel
theorem dX3_reachStart_16 : decode cX3_reachStart 16 = .ok (.iconst 1, 1) := by decide +kernel
theorem dX3_reachStart_17 : decode cX3_reachStart 17 = .ok (.isub, 1) := by decide +kernel
theorem dX3_reachStart_18 : decode cX3_reachStart 18 = .ok (.iaload, 1) := by decide +kernel
theorem dX3_reachStart_19 : decode cX3_reachStart 19 = .ok (.invokevirtual 45, 3) := by decide +kernel
theorem dX3_reachStart_22 : decode cX3_reachStart 22 = .ok (.lload_n 2, 1) := by decide +kernel
theorem dX3_reachStart_23 : decode cX3_reachStart 23 = .ok (.lcmp, 1) := by decide +kernel
theorem dX3_reachStart_24 : decode cX3_reachStart 24 = .ok (.ifCond .ge 49, 3) := by decide +kernel
theorem dX3_reachStart_27 : decode cX3_reachStart 27 = .ok (.aload_n 0, 1) := by decide +kernel
theorem dX3_reachStart_28 : decode cX3_reachStart 28 = .ok (.dup, 1) := by decide +kernel
theorem dX3_reachStart_29 : decode cX3_reachStart 29 = .ok (.getfield 30, 3) := by decide +kernel
theorem dX3_reachStart_32 : decode cX3_reachStart 32 = .ok (.iconst 1, 1) := by decide +kernel
theorem dX3_reachStart_33 : decode cX3_reachStart 33 = .ok (.isub, 1) := by decide +kernel
theorem dX3_reachStart_34 : decode cX3_reachStart 34 = .ok (.putfield 30, 3) := by decide +kernel
theorem dX3_reachStart_37 : decode cX3_reachStart 37 = .ok (.aload_n 0, 1) := by decide +kernel
theorem dX3_reachStart_38 : decode cX3_reachStart 38 = .ok (.aload_n 1, 1) := by decide +kernel
theorem dX3_reachStart_39 : decode cX3_reachStart 39 = .ok (.aload_n 0, 1) := by decide +kernel
theorem dX3_reachStart_40 : decode cX3_reachStart 40 = .ok (.getfield 19, 3) := by decide +kernel
theorem dX3_reachStart_43 : decode cX3_reachStart 43 = .ok (.aload_n 0, 1) := by decide +kernel
theorem dX3_reachStart_44 : decode cX3_reachStart 44 = .ok (.getfield 30, 3) := by decide +kernel
theorem dX3_reachStart_47 : decode cX3_reachStart 47 = .ok (.iaload, 1) := by decide +kernel
theorem dX3_reachStart_48 : decode cX3_reachStart 48 = .ok (.invokevirtual 45, 3) := by decide +kernel
theorem dX3_reachStart_51 : decode cX3_reachStart 51 = .ok (.lconst 1, 1) := by decide +kernel
theorem dX3_reachStart_52 : decode cX3_reachStart 52 = .ok (.ladd, 1) := by decide +kernel
theorem dX3_reachStart_53 : decode cX3_reachStart 53 = .ok (.aload_n 1, 1) := by decide +kernel
theorem dX3_reachStart_54 : decode cX3_reachStart 54 = .ok (.getfield 48, 3) := by decide +kernel
theorem dX3_reachStart_57 : decode cX3_reachStart 57 = .ok (.aload_n 0, 1) := by decide +kernel
theorem dX3_reachStart_58 : decode cX3_reachStart 58 = .ok (.getfield 19, 3) := by decide +kernel
theorem dX3_reachStart_61 : decode cX3_reachStart 61 = .ok (.aload_n 0, 1) := by decide +kernel
theorem dX3_reachStart_62 : decode cX3_reachStart 62 = .ok (.getfield 30, 3) := by decide +kernel
theorem dX3_reachStart_65 : decode cX3_reachStart 65 = .ok (.iaload, 1) := by decide +kernel
theorem dX3_reachStart_66 : decode cX3_reachStart 66 = .ok (.iaload, 1) := by decide +kernel
theorem dX3_reachStart_67 : decode cX3_reachStart 67 = .ok (.invokevirtual 49, 3) := by decide +kernel
theorem dX3_reachStart_70 : decode cX3_reachStart 70 = .ok (.goto (-70), 3) := by decide +kernel
theorem dX3_reachStart_73 : decode cX3_reachStart 73 = .ok (.aload_n 0, 1) := by decide +kernel
theorem dX3_reachStart_74 : decode cX3_reachStart 74 = .ok (.lload_n 2, 1) := by decide +kernel
theorem dX3_reachStart_75 : decode cX3_reachStart 75 = .ok (.aload_n 0, 1) := by decide +kernel
theorem dX3_reachStart_76 : decode cX3_reachStart 76 = .ok (.getfield 30, 3) := by decide +kernel
theorem dX3_reachStart_79 : decode cX3_reachStart 79 = .ok (.ifCond .le 22, 3) := by decide +kernel
theorem dX3_reachStart_82 : decode cX3_reachStart 82 = .ok (.aload_n 1, 1) := by decide +kernel
theorem dX3_reachStart_83 : decode cX3_reachStart 83 = .ok (.getfield 48, 3) := by decide +kernel
theorem dX3_reachStart_86 : decode cX3_reachStart 86 = .ok (.aload_n 0, 1) := by decide +kernel
theorem dX3_reachStart_87 : decode cX3_reachStart 87 = .ok (.getfield 19, 3) := by decide +kernel
theorem dX3_reachStart_90 : decode cX3_reachStart 90 = .ok (.aload_n 0, 1) := by decide +kernel
theorem dX3_reachStart_91 : decode cX3_reachStart 91 = .ok (.getfield 30, 3) := by decide +kernel
theorem dX3_reachStart_94 : decode cX3_reachStart 94 = .ok (.iconst 1, 1) := by decide +kernel
theorem dX3_reachStart_95 : decode cX3_reachStart 95 = .ok (.isub, 1) := by decide +kernel
theorem dX3_reachStart_96 : decode cX3_reachStart 96 = .ok (.iaload, 1) := by decide +kernel
theorem dX3_reachStart_97 : decode cX3_reachStart 97 = .ok (.iaload, 1) := by decide +kernel
theorem dX3_reachStart_98 : decode cX3_reachStart 98 = .ok (.goto 5, 3) := by decide +kernel
theorem dX3_reachStart_101 : decode cX3_reachStart 101 = .ok (.bipush 16, 2) := by decide +kernel
theorem dX3_reachStart_103 : decode cX3_reachStart 103 = .ok (.invokevirtual 49, 3) := by decide +kernel
theorem dX3_reachStart_106 : decode cX3_reachStart 106 = .ok (.return_, 1) := by decide +kernel
theorem dX3_reach_0 : decode cX3_reach 0 = .ok (.lload_n 1, 1) := by decide +kernel
end
section
theorem dX3_reach_1 : decode cX3_reach 1 = .ok (.aload_n 0, 1) := by decide +kernel
theorem dX3_reach_2 : decode cX3_reach 2 = .ok (.getfield 26, 3) := by decide +kernel
theorem dX3_reach_5 : decode cX3_reach 5 = .ok (.lcmp, 1) := by decide +kernel
theorem dX3_reach_6 : decode cX3_reach 6 = .ok (.ifCond .gt 4, 3) := by decide +kernel
theorem dX3_reach_9 : decode cX3_reach 9 = .ok (.return_, 1) := by decide +kernel
theorem dX3_reach_10 : decode cX3_reach 10 = .ok (.aload_n 0, 1) := by decide +kernel
theorem dX3_reach_11 : decode cX3_reach 11 = .ok (.getfield 22, 3) := by decide +kernel
theorem dX3_reach_14 : decode cX3_reach 14 = .ok (.ifCond .le 22, 3) := by decide +kernel
theorem dX3_reach_17 : decode cX3_reach 17 = .ok (.aload_n 0, 1) := by decide +kernel
theorem dX3_reach_18 : decode cX3_reach 18 = .ok (.getfield 15, 3) := by decide +kernel
theorem dX3_reach_21 : decode cX3_reach 21 = .ok (.aload_n 0, 1) := by decide +kernel
theorem dX3_reach_22 : decode cX3_reach 22 = .ok (.getfield 22, 3) := by decide +kernel
theorem dX3_reach_25 : decode cX3_reach 25 = .ok (.iconst 1, 1) := by decide +kernel
theorem dX3_reach_26 : decode cX3_reach 26 = .ok (.isub, 1) := by decide +kernel
theorem dX3_reach_27 : decode cX3_reach 27 = .ok (.iaload, 1) := by decide +kernel
theorem dX3_reach_28 : decode cX3_reach 28 = .ok (.iload_n 3, 1) := by decide +kernel
theorem dX3_reach_29 : decode cX3_reach 29 = .ok (.if_icmp .ne 7, 3) := by decide +kernel
theorem dX3_reach_32 : decode cX3_reach 32 = .ok (.iconst 1, 1) := by decide +kernel
theorem dX3_reach_33 : decode cX3_reach 33 = .ok (.goto 4, 3) := by decide +kernel
theorem dX3_reach_36 : decode cX3_reach 36 = .ok (.iconst 0, 1) := by decide +kernel
theorem dX3_reach_37 : decode cX3_reach 37 = .ok (.istore 4, 2) := by decide +kernel
theorem dX3_reach_39 : decode cX3_reach 39 = .ok (.iload 4, 2) := by decide +kernel
theorem dX3_reach_41 : decode cX3_reach 41 = .ok (.ifCond .ne 46, 3) := by decide +kernel
theorem dX3_reach_44 : decode cX3_reach 44 = .ok (.aload_n 0, 1) := by decide +kernel
theorem dX3_reach_45 : decode cX3_reach 45 = .ok (.getfield 22, 3) := by decide +kernel
theorem dX3_reach_48 : decode cX3_reach 48 = .ok (.sipush 129, 3) := by decide +kernel
theorem dX3_reach_51 : decode cX3_reach 51 = .ok (.if_icmp .ge 36, 3) := by decide +kernel
theorem dX3_reach_54 : decode cX3_reach 54 = .ok (.aload_n 0, 1) := by decide +kernel
theorem dX3_reach_55 : decode cX3_reach 55 = .ok (.getfield 11, 3) := by decide +kernel
theorem dX3_reach_58 : decode cX3_reach 58 = .ok (.aload_n 0, 1) := by decide +kernel
theorem dX3_reach_59 : decode cX3_reach 59 = .ok (.getfield 22, 3) := by decide +kernel
theorem dX3_reach_62 : decode cX3_reach 62 = .ok (.aload_n 0, 1) := by decide +kernel
theorem dX3_reach_63 : decode cX3_reach 63 = .ok (.getfield 26, 3) := by decide +kernel
theorem dX3_reach_66 : decode cX3_reach 66 = .ok (.lastore, 1) := by decide +kernel
theorem dX3_reach_67 : decode cX3_reach 67 = .ok (.aload_n 0, 1) := by decide +kernel
theorem dX3_reach_68 : decode cX3_reach 68 = .ok (.getfield 15, 3) := by decide +kernel
theorem dX3_reach_71 : decode cX3_reach 71 = .ok (.aload_n 0, 1) := by decide +kernel
theorem dX3_reach_72 : decode cX3_reach 72 = .ok (.getfield 22, 3) := by decide +kernel
theorem dX3_reach_75 : decode cX3_reach 75 = .ok (.iload_n 3, 1) := by decide +kernel
theorem dX3_reach_76 : decode cX3_reach 76 = .ok (.iastore, 1) := by decide +kernel
theorem dX3_reach_77 : decode cX3_reach 77 = .ok (.aload_n 0, 1) := by decide +kernel
theorem dX3_reach_78 : decode cX3_reach 78 = .ok (.dup, 1) := by decide +kernel
theorem dX3_reach_79 : decode cX3_reach 79 = .ok (.getfield 22, 3) := by decide +kernel
theorem dX3_reach_82 : decode cX3_reach 82 = .ok (.iconst 1, 1) := by decide +kernel
theorem dX3_reach_83 : decode cX3_reach 83 = .ok (.iadd, 1) := by decide +kernel
theorem dX3_reach_84 : decode cX3_reach 84 = .ok (.putfield 22, 3) := by decide +kernel
theorem dX3_reach_87 : decode cX3_reach 87 = .ok (.aload_n 0, 1) := by decide +kernel
theorem dX3_reach_88 : decode cX3_reach 88 = .ok (.lload_n 1, 1) := by decide +kernel
theorem dX3_reach_89 : decode cX3_reach 89 = .ok (.putfield 26, 3) := by decide +kernel
theorem dX3_reach_92 : decode cX3_reach 92 = .ok (.return_, 1) := by decide +kernel
theorem dX3_last_0 : decode cX3_last 0 = .ok (.iload_n 1, 1) := by decide +kernel
theorem dX3_last_1 : decode cX3_last 1 = .ok (.iconst 1, 1) := by decide +kernel
theorem dX3_last_2 : decode cX3_last 2 = .ok (.iadd, 1) := by decide +kernel
theorem dX3_last_3 : decode cX3_last 3 = .ok (.aload_n 0, 1) := by decide +kernel
theorem dX3_last_4 : decode cX3_last 4 = .ok (.getfield 22, 3) := by decide +kernel
theorem dX3_last_7 : decode cX3_last 7 = .ok (.if_icmp .ge 16, 3) := by decide +kernel
theorem dX3_last_10 : decode cX3_last 10 = .ok (.aload_n 0, 1) := by decide +kernel
theorem dX3_last_11 : decode cX3_last 11 = .ok (.getfield 11, 3) := by decide +kernel
theorem dX3_last_14 : decode cX3_last 14 = .ok (.iload_n 1, 1) := by decide +kernel
theorem dX3_last_15 : decode cX3_last 15 = .ok (.iconst 1, 1) := by decide +kernel
theorem dX3_last_16 : decode cX3_last 16 = .ok (.iadd, 1) := by decide +kernel
theorem dX3_last_17 : decode cX3_last 17 = .ok (.laload, 1) := by decide +kernel
theorem dX3_last_18 : decode cX3_last 18 = .ok (.lconst 1, 1) := by decide +kernel
theorem dX3_last_19 : decode cX3_last 19 = .ok (.lsub, 1) := by decide +kernel
theorem dX3_last_20 : decode cX3_last 20 = .ok (.goto 6, 3) := by decide +kernel
theorem dX3_last_23 : decode cX3_last 23 = .ok (.ldc2_w 53, 3) := by decide +kernel
theorem dX3_last_26 : decode cX3_last 26 = .ok (.lreturn, 1) := by decide +kernel
set_option maxRecDepth 20000 in
theorem ggX3_tell_X3_last : GoodIn wsX3_tell wsX3_last := goodIn_r _ [9, 1, 3, 10, 11, 12, 13, 14, 15, 16] (by decide +kernel) (by decide +kernel)
set_option maxRecDepth 20000 in
theorem gX3_tell_X3_last : GoodIn wsX3_tell (wsV RX3 57 RX3 yX3_last wsX3_last) := goodIn_app (goodIn_of _ (by decide +kernel)) ggX3_tell_X3_last
theorem dX3_tell_0 : decode cX3_tell 0 = .ok (.iload_n 1, 1) := by decide +kernel
theorem dX3_tell_1 : decode cX3_tell 1 = .ok (.ifCond .lt 11, 3) := by decide +kernel
theorem dX3_tell_4 : decode cX3_tell 4 = .ok (.iload_n 1, 1) := by decide +kernel
theorem dX3_tell_5 : decode cX3_tell 5 = .ok (.aload_n 0, 1) := by decide +kernel
theorem dX3_tell_6 : decode cX3_tell 6 = .ok (.getfield 22, 3) := by decide +kernel
theorem dX3_tell_9 : decode cX3_tell 9 = .ok (.if_icmp .lt 7, 3) := by decide +kernel
theorem dX3_tell_12 : decode cX3_tell 12 = .ok (.ldc2_w 55, 3) := by decide +kernel
theorem dX3_tell_15 : decode cX3_tell 15 = .ok (.lreturn, 1) := by decide +kernel
theorem dX3_tell_16 : decode cX3_tell 16 = .ok (.iload_n 2, 1) := by decide +kernel
theorem dX3_tell_17 : decode cX3_tell 17 = .ok (.tableswitch 48 0 2 #[27, 34, 40], 27) := by decide +kernel
theorem dX3_tell_44 : decode cX3_tell 44 = .ok (.aload_n 0, 1) := by decide +kernel
theorem dX3_tell_45 : decode cX3_tell 45 = .ok (.getfield 11, 3) := by decide +kernel
theorem dX3_tell_48 : decode cX3_tell 48 = .ok (.iload_n 1, 1) := by decide +kernel
theorem dX3_tell_49 : decode cX3_tell 49 = .ok (.laload, 1) := by decide +kernel
theorem dX3_tell_50 : decode cX3_tell 50 = .ok (.lreturn, 1) := by decide +kernel
theorem dX3_tell_51 : decode cX3_tell 51 = .ok (.aload_n 0, 1) := by decide +kernel
theorem dX3_tell_52 : decode cX3_tell 52 = .ok (.iload_n 1, 1) := by decide +kernel
theorem dX3_tell_53 : decode cX3_tell 53 = .ok (.invokevirtual 57, 3) := by decide +kernel
theorem dX3_tell_56 : decode cX3_tell 56 = .ok (.lreturn, 1) := by decide +kernel
theorem dX3_tell_57 : decode cX3_tell 57 = .ok (.aload_n 0, 1) := by decide +kernel
theorem dX3_tell_58 : decode cX3_tell 58 = .ok (.getfield 15, 3) := by decide +kernel
theorem dX3_tell_61 : decode cX3_tell 61 = .ok (.iload_n 1, 1) := by decide +kernel
theorem dX3_tell_62 : decode cX3_tell 62 = .ok (.iaload, 1) := by decide +kernel
theorem dX3_tell_63 : decode cX3_tell 63 = .ok (.i2l, 1) := by decide +kernel
theorem dX3_tell_64 : decode cX3_tell 64 = .ok (.lreturn, 1) := by decide +kernel
theorem dX3_tell_65 : decode cX3_tell 65 = .ok (.ldc2_w 55, 3) := by decide +kernel
theorem dX3_tell_68 : decode cX3_tell 68 = .ok (.lreturn, 1) := by decide +kernel
set_option maxRecDepth 20000 in
theorem ggX3_addressesTo_X3_last : GoodIn wsX3_addressesTo wsX3_last := goodIn_r _ [8, 1, 3, 9, 10, 11, 12, 13, 14, 15] (by decide +kernel) (by decide +kernel)
set_option maxRecDepth 20000 in
theorem gX3_addressesTo_X3_last : GoodIn wsX3_addressesTo (wsV RX3 57 RX3 yX3_last wsX3_last) := goodIn_app (goodIn_of _ (by decide +kernel)) ggX3_addressesTo_X3_last
theorem dX3_addressesTo_0 : decode cX3_addressesTo 0 = .ok (.lconst 0, 1) := by decide +kernel
theorem dX3_addressesTo_1 : decode cX3_addressesTo 1 = .ok (.lstore_n 2, 1) := by decide +kernel
theorem dX3_addressesTo_2 : decode cX3_addressesTo 2 = .ok (.iconst 0, 1) := by decide +kernel
theorem dX3_addressesTo_3 : decode cX3_addressesTo 3 = .ok (.istore 4, 2) := by decide +kernel
theorem dX3_addressesTo_5 : decode cX3_addressesTo 5 = .ok (.iload 4, 2) := by decide +kernel
theorem dX3_addressesTo_7 : decode cX3_addressesTo 7 = .ok (.aload_n 0, 1) := by decide +kernel
theorem dX3_addressesTo_8 : decode cX3_addressesTo 8 = .ok (.getfield 22, 3) := by decide +kernel
theorem dX3_addressesTo_11 : decode cX3_addressesTo 11 = .ok (.if_icmp .ge 39, 3) := by decide +kernel
theorem dX3_addressesTo_14 : decode cX3_addressesTo 14 = .ok (.aload_n 0, 1) := by decide +kernel
theorem dX3_addressesTo_15 : decode cX3_addressesTo 15 = .ok (.getfield 15, 3) := by decide +kernel
theorem dX3_addressesTo_18 : decode cX3_addressesTo 18 = .ok (.iload 4, 2) := by decide +kernel
theorem dX3_addressesTo_20 : decode cX3_addressesTo 20 = .ok (.iaload, 1) := by decide +kernel
theorem dX3_addressesTo_21 : decode cX3_addressesTo 21 = .ok (.iload_n 1, 1) := by decide +kernel
theorem dX3_addressesTo_22 : decode cX3_addressesTo 22 = .ok (.if_icmp .ne 22, 3) := by decide +kernel
theorem dX3_addressesTo_25 : decode cX3_addressesTo 25 = .ok (.lload_n 2, 1) := by decide +kernel
theorem dX3_addressesTo_26 : decode cX3_addressesTo 26 = .ok (.aload_n 0, 1) := by decide +kernel
theorem dX3_addressesTo_27 : decode cX3_addressesTo 27 = .ok (.iload 4, 2) := by decide +kernel
theorem dX3_addressesTo_29 : decode cX3_addressesTo 29 = .ok (.invokevirtual 57, 3) := by decide +kernel
theorem dX3_addressesTo_32 : decode cX3_addressesTo 32 = .ok (.aload_n 0, 1) := by decide +kernel
theorem dX3_addressesTo_33 : decode cX3_addressesTo 33 = .ok (.getfield 11, 3) := by decide +kernel
theorem dX3_addressesTo_36 : decode cX3_addressesTo 36 = .ok (.iload 4, 2) := by decide +kernel
theorem dX3_addressesTo_38 : decode cX3_addressesTo 38 = .ok (.laload, 1) := by decide +kernel
theorem dX3_addressesTo_39 : decode cX3_addressesTo 39 = .ok (.lsub, 1) := by decide +kernel
theorem dX3_addressesTo_40 : decode cX3_addressesTo 40 = .ok (.lconst 1, 1) := by decide +kernel
theorem dX3_addressesTo_41 : decode cX3_addressesTo 41 = .ok (.ladd, 1) := by decide +kernel
theorem dX3_addressesTo_42 : decode cX3_addressesTo 42 = .ok (.ladd, 1) := by decide +kernel
theorem dX3_addressesTo_43 : decode cX3_addressesTo 43 = .ok (.lstore_n 2, 1) := by decide +kernel
theorem dX3_addressesTo_44 : decode cX3_addressesTo 44 = .ok (.iinc 4 1, 3) := by decide +kernel
theorem dX3_addressesTo_47 : decode cX3_addressesTo 47 = .ok (.goto (-42), 3) := by decide +kernel
theorem dX3_addressesTo_50 : decode cX3_addressesTo 50 = .ok (.lload_n 2, 1) := by decide +kernel
theorem dX3_addressesTo_51 : decode cX3_addressesTo 51 = .ok (.lreturn, 1) := by decide +kernel
set_option maxRecDepth 20000 in
theorem ggX4_nodesOf_X4_nodesAt : GoodIn wsX4_nodesOf wsX4_nodesAt := goodIn_r _ [4, 5, 6, 7, 8, 9, 10, 11, 12, 13, 14, 15, 16, 17, 18, 19] (by decide +kernel) (by decide +kernel)
set_option maxRecDepth 20000 in
theorem gX4_nodesOf_X4_nodesAt : GoodIn wsX4_nodesOf (va_wsS RX4 9 yX4_nodesAt wsX4_nodesAt) := goodIn_app (goodIn_of _ (by decide +kernel)) ggX4_nodesOf_X4_nodesAt
theorem dX4_nodesOf_0 : decode cX4_nodesOf 0 = .ok (.iconst 1, 1) := by decide +kernel
theorem dX4_nodesOf_1 : decode cX4_nodesOf 1 = .ok (.istore_n 1, 1) := by decide +kernel
theorem dX4_nodesOf_2 : decode cX4_nodesOf 2 = .ok (.bipush 6, 2) := by decide +kernel
theorem dX4_nodesOf_4 : decode cX4_nodesOf 4 = .ok (.istore_n 2, 1) := by decide +kernel
theorem dX4_nodesOf_5 : decode cX4_nodesOf 5 = .ok (.iload_n 2, 1) := by decide +kernel
theorem dX4_nodesOf_6 : decode cX4_nodesOf 6 = .ok (.bipush 30, 2) := by decide +kernel
theorem dX4_nodesOf_8 : decode cX4_nodesOf 8 = .ok (.if_icmp .gt 17, 3) := by decide +kernel
theorem dX4_nodesOf_11 : decode cX4_nodesOf 11 = .ok (.iload_n 1, 1) := by decide +kernel
theorem dX4_nodesOf_12 : decode cX4_nodesOf 12 = .ok (.aload_n 0, 1) := by decide +kernel
theorem dX4_nodesOf_13 : decode cX4_nodesOf 13 = .ok (.iload_n 2, 1) := by decide +kernel
theorem dX4_nodesOf_14 : decode cX4_nodesOf 14 = .ok (.invokestatic 9, 3) := by decide +kernel
theorem dX4_nodesOf_17 : decode cX4_nodesOf 17 = .ok (.iadd, 1) := by decide +kernel
theorem dX4_nodesOf_18 : decode cX4_nodesOf 18 = .ok (.istore_n 1, 1) := by decide +kernel
theorem dX4_nodesOf_19 : decode cX4_nodesOf 19 = .ok (.iinc 2 6, 3) := by decide +kernel
theorem dX4_nodesOf_22 : decode cX4_nodesOf 22 = .ok (.goto (-17), 3) := by decide +kernel
theorem dX4_nodesOf_25 : decode cX4_nodesOf 25 = .ok (.iload_n 1, 1) := by decide +kernel
theorem dX4_nodesOf_26 : decode cX4_nodesOf 26 = .ok (.ireturn, 1) := by decide +kernel
set_option maxRecDepth 20000 in
theorem ggX4_nodesAt_X7_mask : GoodIn wsX4_nodesAt wsX7_mask := goodIn_r _ [6, 7, 8, 9, 10] (by decide +kernel) (by decide +kernel)
set_option maxRecDepth 20000 in
theorem gX4_nodesAt_X7_mask_n25 : GoodIn wsX4_nodesAt (wsX7_mask) := ggX4_nodesAt_X7_mask
theorem dX4_nodesAt_0 : decode cX4_nodesAt 0 = .ok (.iconst 0, 1) := by decide +kernel
theorem dX4_nodesAt_1 : decode cX4_nodesAt 1 = .ok (.istore_n 2, 1) := by decide +kernel
theorem dX4_nodesAt_2 : decode cX4_nodesAt 2 = .ok (.iconst 0, 1) := by decide +kernel
theorem dX4_nodesAt_3 : decode cX4_nodesAt 3 = .ok (.istore_n 3, 1) := by decide +kernel
theorem dX4_nodesAt_4 : decode cX4_nodesAt 4 = .ok (.iconst 0, 1) := by decide +kernel
theorem dX4_nodesAt_5 : decode cX4_nodesAt 5 = .ok (.istore 4, 2) := by decide +kernel
theorem dX4_nodesAt_7 : decode cX4_nodesAt 7 = .ok (.iload 4, 2) := by decide +kernel
theorem dX4_nodesAt_9 : decode cX4_nodesAt 9 = .ok (.aload_n 0, 1) := by decide +kernel
theorem dX4_nodesAt_10 : decode cX4_nodesAt 10 = .ok (.getfield 15, 3) := by decide +kernel
theorem dX4_nodesAt_13 : decode cX4_nodesAt 13 = .ok (.if_icmp .ge 50, 3) := by decide +kernel
theorem dX4_nodesAt_16 : decode cX4_nodesAt 16 = .ok (.aload_n 0, 1) := by decide +kernel
theorem dX4_nodesAt_17 : decode cX4_nodesAt 17 = .ok (.getfield 21, 3) := by decide +kernel
theorem dX4_nodesAt_20 : decode cX4_nodesAt 20 = .ok (.iload 4, 2) := by decide +kernel
theorem dX4_nodesAt_22 : decode cX4_nodesAt 22 = .ok (.iaload, 1) := by decide +kernel
theorem dX4_nodesAt_23 : decode cX4_nodesAt 23 = .ok (.iload_n 1, 1) := by decide +kernel
theorem dX4_nodesAt_24 : decode cX4_nodesAt 24 = .ok (.invokestatic 25, 3) := by decide +kernel
theorem dX4_nodesAt_27 : decode cX4_nodesAt 27 = .ok (.iand, 1) := by decide +kernel
theorem dX4_nodesAt_28 : decode cX4_nodesAt 28 = .ok (.istore 5, 2) := by decide +kernel
theorem dX4_nodesAt_30 : decode cX4_nodesAt 30 = .ok (.aload_n 0, 1) := by decide +kernel
theorem dX4_nodesAt_31 : decode cX4_nodesAt 31 = .ok (.getfield 29, 3) := by decide +kernel
theorem dX4_nodesAt_34 : decode cX4_nodesAt 34 = .ok (.iload 4, 2) := by decide +kernel
theorem dX4_nodesAt_36 : decode cX4_nodesAt 36 = .ok (.iaload, 1) := by decide +kernel
theorem dX4_nodesAt_37 : decode cX4_nodesAt 37 = .ok (.iload_n 1, 1) := by decide +kernel
theorem dX4_nodesAt_38 : decode cX4_nodesAt 38 = .ok (.if_icmp .le 19, 3) := by decide +kernel
theorem dX4_nodesAt_41 : decode cX4_nodesAt 41 = .ok (.iload_n 2, 1) := by decide +kernel
theorem dX4_nodesAt_42 : decode cX4_nodesAt 42 = .ok (.ifCond .eq 9, 3) := by decide +kernel
theorem dX4_nodesAt_45 : decode cX4_nodesAt 45 = .ok (.iload 5, 2) := by decide +kernel
theorem dX4_nodesAt_47 : decode cX4_nodesAt 47 = .ok (.iload_n 3, 1) := by decide +kernel
theorem dX4_nodesAt_48 : decode cX4_nodesAt 48 = .ok (.if_icmp .eq 9, 3) := by decide +kernel
theorem dX4_nodesAt_51 : decode cX4_nodesAt 51 = .ok (.iinc 2 1, 3) := by decide +kernel
theorem dX4_nodesAt_54 : decode cX4_nodesAt 54 = .ok (.iload 5, 2) := by decide +kernel
theorem dX4_nodesAt_56 : decode cX4_nodesAt 56 = .ok (.istore_n 3, 1) := by decide +kernel
theorem dX4_nodesAt_57 : decode cX4_nodesAt 57 = .ok (.iinc 4 1, 3) := by decide +kernel
theorem dX4_nodesAt_60 : decode cX4_nodesAt 60 = .ok (.goto (-53), 3) := by decide +kernel
theorem dX4_nodesAt_63 : decode cX4_nodesAt 63 = .ok (.iload_n 2, 1) := by decide +kernel
theorem dX4_nodesAt_64 : decode cX4_nodesAt 64 = .ok (.ireturn, 1) := by decide +kernel
theorem dX4_deepest_0 : decode cX4_deepest 0 = .ok (.iconst 0, 1) := by decide +kernel
theorem dX4_deepest_1 : decode cX4_deepest 1 = .ok (.istore_n 1, 1) := by decide +kernel
theorem dX4_deepest_2 : decode cX4_deepest 2 = .ok (.iconst 0, 1) := by decide +kernel
theorem dX4_deepest_3 : decode cX4_deepest 3 = .ok (.istore_n 2, 1) := by decide +kernel
theorem dX4_deepest_4 : decode cX4_deepest 4 = .ok (.iload_n 2, 1) := by decide +kernel
theorem dX4_deepest_5 : decode cX4_deepest 5 = .ok (.aload_n 0, 1) := by decide +kernel
theorem dX4_deepest_6 : decode cX4_deepest 6 = .ok (.getfield 15, 3) := by decide +kernel
theorem dX4_deepest_9 : decode cX4_deepest 9 = .ok (.if_icmp .ge 34, 3) := by decide +kernel
theorem dX4_deepest_12 : decode cX4_deepest 12 = .ok (.iload_n 1, 1) := by decide +kernel
theorem dX4_deepest_13 : decode cX4_deepest 13 = .ok (.bipush 30, 2) := by decide +kernel
theorem dX4_deepest_15 : decode cX4_deepest 15 = .ok (.if_icmp .ge 22, 3) := by decide +kernel
theorem dX4_deepest_18 : decode cX4_deepest 18 = .ok (.aload_n 0, 1) := by decide +kernel
theorem dX4_deepest_19 : decode cX4_deepest 19 = .ok (.getfield 29, 3) := by decide +kernel
theorem dX4_deepest_22 : decode cX4_deepest 22 = .ok (.iload_n 2, 1) := by decide +kernel
theorem dX4_deepest_23 : decode cX4_deepest 23 = .ok (.iaload, 1) := by decide +kernel
theorem dX4_deepest_24 : decode cX4_deepest 24 = .ok (.iload_n 1, 1) := by decide +kernel
theorem dX4_deepest_25 : decode cX4_deepest 25 = .ok (.bipush 6, 2) := by decide +kernel
theorem dX4_deepest_27 : decode cX4_deepest 27 = .ok (.iadd, 1) := by decide +kernel
theorem dX4_deepest_28 : decode cX4_deepest 28 = .ok (.if_icmp .le 9, 3) := by decide +kernel
theorem dX4_deepest_31 : decode cX4_deepest 31 = .ok (.iinc 1 6, 3) := by decide +kernel
theorem dX4_deepest_34 : decode cX4_deepest 34 = .ok (.goto (-22), 3) := by decide +kernel
theorem dX4_deepest_37 : decode cX4_deepest 37 = .ok (.iinc 2 1, 3) := by decide +kernel
theorem dX4_deepest_40 : decode cX4_deepest 40 = .ok (.goto (-36), 3) := by decide +kernel
theorem dX4_deepest_43 : decode cX4_deepest 43 = .ok (.iload_n 1, 1) := by decide +kernel
theorem dX4_deepest_44 : decode cX4_deepest 44 = .ok (.ireturn, 1) := by decide +kernel
theorem dX4_stepsDownTo_0 : decode cX4_stepsDownTo 0 = .ok (.iload_n 0, 1) := by decide +kernel
theorem dX4_stepsDownTo_1 : decode cX4_stepsDownTo 1 = .ok (.bipush 6, 2) := by decide +kernel
theorem dX4_stepsDownTo_3 : decode cX4_stepsDownTo 3 = .ok (.idiv, 1) := by decide +kernel
theorem dX4_stepsDownTo_4 : decode cX4_stepsDownTo 4 = .ok (.iconst 1, 1) := by decide +kernel
theorem dX4_stepsDownTo_5 : decode cX4_stepsDownTo 5 = .ok (.iadd, 1) := by decide +kernel
theorem dX4_stepsDownTo_6 : decode cX4_stepsDownTo 6 = .ok (.ireturn, 1) := by decide +kernel
set_option maxRecDepth 20000 in
theorem ggX4_firstDeepest_X4_deepest : GoodIn wsX4_firstDeepest wsX4_deepest := goodIn_r _ [7, 1, 2, 18, 19, 20, 21, 22] (by decide +kernel) (by decide +kernel)
set_option maxRecDepth 20000 in
theorem gX4_firstDeepest_X4_deepest : GoodIn wsX4_firstDeepest (va_wsS RX4 32 yX4_deepest wsX4_deepest) := goodIn_app (goodIn_of _ (by decide +kernel)) ggX4_firstDeepest_X4_deepest
set_option maxRecDepth 20000 in
theorem ggX4_firstDeepest_X7_mask : GoodIn wsX4_firstDeepest wsX7_mask := goodIn_r _ [10, 11, 12, 13, 14] (by decide +kernel) (by decide +kernel)
set_option maxRecDepth 20000 in
theorem gX4_firstDeepest_X7_mask_n25 : GoodIn wsX4_firstDeepest (wsX7_mask) := ggX4_firstDeepest_X7_mask
set_option maxRecDepth 20000 in
theorem ggX4_firstDeepest_X7_wide : GoodIn wsX4_firstDeepest wsX7_wide := goodIn_r _ [16, 17] (by decide +kernel) (by decide +kernel)
set_option maxRecDepth 20000 in
theorem gX4_firstDeepest_X7_wide_n36 : GoodIn wsX4_firstDeepest (wsX7_wide) := ggX4_firstDeepest_X7_wide
theorem dX4_firstDeepest_0 : decode cX4_firstDeepest 0 = .ok (.aload_n 0, 1) := by decide +kernel
theorem dX4_firstDeepest_1 : decode cX4_firstDeepest 1 = .ok (.invokestatic 32, 3) := by decide +kernel
theorem dX4_firstDeepest_4 : decode cX4_firstDeepest 4 = .ok (.istore_n 1, 1) := by decide +kernel
theorem dX4_firstDeepest_5 : decode cX4_firstDeepest 5 = .ok (.iconst 0, 1) := by decide +kernel
theorem dX4_firstDeepest_6 : decode cX4_firstDeepest 6 = .ok (.istore_n 2, 1) := by decide +kernel
theorem dX4_firstDeepest_7 : decode cX4_firstDeepest 7 = .ok (.iload_n 2, 1) := by decide +kernel
theorem dX4_firstDeepest_8 : decode cX4_firstDeepest 8 = .ok (.aload_n 0, 1) := by decide +kernel
theorem dX4_firstDeepest_9 : decode cX4_firstDeepest 9 = .ok (.getfield 15, 3) := by decide +kernel
theorem dX4_firstDeepest_12 : decode cX4_firstDeepest 12 = .ok (.if_icmp .ge 34, 3) := by decide +kernel
theorem dX4_firstDeepest_15 : decode cX4_firstDeepest 15 = .ok (.aload_n 0, 1) := by decide +kernel
theorem dX4_firstDeepest_16 : decode cX4_firstDeepest 16 = .ok (.getfield 29, 3) := by decide +kernel
theorem dX4_firstDeepest_19 : decode cX4_firstDeepest 19 = .ok (.iload_n 2, 1) := by decide +kernel
theorem dX4_firstDeepest_20 : decode cX4_firstDeepest 20 = .ok (.iaload, 1) := by decide +kernel
theorem dX4_firstDeepest_21 : decode cX4_firstDeepest 21 = .ok (.iload_n 1, 1) := by decide +kernel
theorem dX4_firstDeepest_22 : decode cX4_firstDeepest 22 = .ok (.if_icmp .le 18, 3) := by decide +kernel
theorem dX4_firstDeepest_25 : decode cX4_firstDeepest 25 = .ok (.aload_n 0, 1) := by decide +kernel
theorem dX4_firstDeepest_26 : decode cX4_firstDeepest 26 = .ok (.getfield 21, 3) := by decide +kernel
theorem dX4_firstDeepest_29 : decode cX4_firstDeepest 29 = .ok (.iload_n 2, 1) := by decide +kernel
theorem dX4_firstDeepest_30 : decode cX4_firstDeepest 30 = .ok (.iaload, 1) := by decide +kernel
theorem dX4_firstDeepest_31 : decode cX4_firstDeepest 31 = .ok (.iload_n 1, 1) := by decide +kernel
theorem dX4_firstDeepest_32 : decode cX4_firstDeepest 32 = .ok (.invokestatic 25, 3) := by decide +kernel
theorem dX4_firstDeepest_35 : decode cX4_firstDeepest 35 = .ok (.iand, 1) := by decide +kernel
theorem dX4_firstDeepest_36 : decode cX4_firstDeepest 36 = .ok (.invokestatic 36, 3) := by decide +kernel
theorem dX4_firstDeepest_39 : decode cX4_firstDeepest 39 = .ok (.lreturn, 1) := by decide +kernel
theorem dX4_firstDeepest_40 : decode cX4_firstDeepest 40 = .ok (.iinc 2 1, 3) := by decide +kernel
theorem dX4_firstDeepest_43 : decode cX4_firstDeepest 43 = .ok (.goto (-36), 3) := by decide +kernel
theorem dX4_firstDeepest_46 : decode cX4_firstDeepest 46 = .ok (.lconst 0, 1) := by decide +kernel
theorem dX4_firstDeepest_47 : decode cX4_firstDeepest 47 = .ok (.lreturn, 1) := by decide +kernel
set_option maxRecDepth 20000 in
theorem ggX4_stepsOf_X7_mask : GoodIn wsX4_stepsOf wsX7_mask := goodIn_r _ [3, 4, 5, 6, 7] (by decide +kernel) (by decide +kernel)
set_option maxRecDepth 20000 in
theorem gX4_stepsOf_X7_mask_n25 : GoodIn wsX4_stepsOf (wsX7_mask) := ggX4_stepsOf_X7_mask
set_option maxRecDepth 20000 in
theorem ggX4_stepsOf_X4_hasNode : GoodIn wsX4_stepsOf wsX4_hasNode := goodIn_r _ [11, 12, 13, 14, 15, 2, 16, 17, 1, 3, 4, 5, 6, 7, 21, 22, 23, 24, 25] (by decide +kernel) (by decide +kernel)
set_option maxRecDepth 20000 in
theorem gX4_stepsOf_X4_hasNode : GoodIn wsX4_stepsOf (va_wsS RX4 40 yX4_hasNode wsX4_hasNode) := goodIn_app (goodIn_of _ (by decide +kernel)) ggX4_stepsOf_X4_hasNode
set_option maxRecDepth 20000 in
theorem ggX4_stepsOf_X4_stepsDownTo : GoodIn wsX4_stepsOf wsX4_stepsDownTo := goodIn_r _ [20] (by decide +kernel) (by decide +kernel)
set_option maxRecDepth 20000 in
theorem gX4_stepsOf_X4_stepsDownTo : GoodIn wsX4_stepsOf (va_wsS RX4 44 yX4_stepsDownTo wsX4_stepsDownTo) := goodIn_app (goodIn_of _ (by decide +kernel)) ggX4_stepsOf_X4_stepsDownTo
theorem dX4_stepsOf_0 : decode cX4_stepsOf 0 = .ok (.bipush 30, 2) := by decide +kernel
theorem dX4_stepsOf_2 : decode cX4_stepsOf 2 = .ok (.istore_n 2, 1) := by decide +kernel
theorem dX4_stepsOf_3 : decode cX4_stepsOf 3 = .ok (.iload_n 2, 1) := by decide +kernel
theorem dX4_stepsOf_4 : decode cX4_stepsOf 4 = .ok (.ifCond .le 28, 3) := by decide +kernel
theorem dX4_stepsOf_7 : decode cX4_stepsOf 7 = .ok (.aload_n 0, 1) := by decide +kernel
theorem dX4_stepsOf_8 : decode cX4_stepsOf 8 = .ok (.iload_n 1, 1) := by decide +kernel
theorem dX4_stepsOf_9 : decode cX4_stepsOf 9 = .ok (.iload_n 2, 1) := by decide +kernel
theorem dX4_stepsOf_10 : decode cX4_stepsOf 10 = .ok (.invokestatic 25, 3) := by decide +kernel
theorem dX4_stepsOf_13 : decode cX4_stepsOf 13 = .ok (.iand, 1) := by decide +kernel
theorem dX4_stepsOf_14 : decode cX4_stepsOf 14 = .ok (.iload_n 2, 1) := by decide +kernel
theorem dX4_stepsOf_15 : decode cX4_stepsOf 15 = .ok (.invokestatic 40, 3) := by decide +kernel
theorem dX4_stepsOf_18 : decode cX4_stepsOf 18 = .ok (.ifCond .eq 8, 3) := by decide +kernel
theorem dX4_stepsOf_21 : decode cX4_stepsOf 21 = .ok (.iload_n 2, 1) := by decide +kernel
theorem dX4_stepsOf_22 : decode cX4_stepsOf 22 = .ok (.invokestatic 44, 3) := by decide +kernel
theorem dX4_stepsOf_25 : decode cX4_stepsOf 25 = .ok (.ireturn, 1) := by decide +kernel
theorem dX4_stepsOf_26 : decode cX4_stepsOf 26 = .ok (.iinc 2 (-6), 3) := by decide +kernel
theorem dX4_stepsOf_29 : decode cX4_stepsOf 29 = .ok (.goto (-26), 3) := by decide +kernel
theorem dX4_stepsOf_32 : decode cX4_stepsOf 32 = .ok (.iconst 1, 1) := by decide +kernel
theorem dX4_stepsOf_33 : decode cX4_stepsOf 33 = .ok (.ireturn, 1) := by decide +kernel
set_option maxRecDepth 20000 in
theorem ggX4_hasNode_X7_begins : GoodIn wsX4_hasNode wsX7_begins := goodIn_r _ [6, 7, 8, 5, 9, 10, 11, 12, 13] (by decide +kernel) (by decide +kernel)
set_option maxRecDepth 20000 in
theorem gX4_hasNode_X7_begins_n47 : GoodIn wsX4_hasNode (wsX7_begins) := ggX4_hasNode_X7_begins
theorem dX4_hasNode_0 : decode cX4_hasNode 0 = .ok (.iconst 0, 1) := by decide +kernel
theorem dX4_hasNode_1 : decode cX4_hasNode 1 = .ok (.istore_n 3, 1) := by decide +kernel
theorem dX4_hasNode_2 : decode cX4_hasNode 2 = .ok (.iload_n 3, 1) := by decide +kernel
theorem dX4_hasNode_3 : decode cX4_hasNode 3 = .ok (.aload_n 0, 1) := by decide +kernel
theorem dX4_hasNode_4 : decode cX4_hasNode 4 = .ok (.getfield 15, 3) := by decide +kernel
theorem dX4_hasNode_7 : decode cX4_hasNode 7 = .ok (.if_icmp .ge 35, 3) := by decide +kernel
theorem dX4_hasNode_10 : decode cX4_hasNode 10 = .ok (.aload_n 0, 1) := by decide +kernel
theorem dX4_hasNode_11 : decode cX4_hasNode 11 = .ok (.getfield 29, 3) := by decide +kernel
theorem dX4_hasNode_14 : decode cX4_hasNode 14 = .ok (.iload_n 3, 1) := by decide +kernel
theorem dX4_hasNode_15 : decode cX4_hasNode 15 = .ok (.iaload, 1) := by decide +kernel
theorem dX4_hasNode_16 : decode cX4_hasNode 16 = .ok (.iload_n 2, 1) := by decide +kernel
theorem dX4_hasNode_17 : decode cX4_hasNode 17 = .ok (.if_icmp .le 19, 3) := by decide +kernel
theorem dX4_hasNode_20 : decode cX4_hasNode 20 = .ok (.aload_n 0, 1) := by decide +kernel
theorem dX4_hasNode_21 : decode cX4_hasNode 21 = .ok (.getfield 21, 3) := by decide +kernel
theorem dX4_hasNode_24 : decode cX4_hasNode 24 = .ok (.iload_n 3, 1) := by decide +kernel
theorem dX4_hasNode_25 : decode cX4_hasNode 25 = .ok (.iaload, 1) := by decide +kernel
theorem dX4_hasNode_26 : decode cX4_hasNode 26 = .ok (.iload_n 1, 1) := by decide +kernel
theorem dX4_hasNode_27 : decode cX4_hasNode 27 = .ok (.iload_n 2, 1) := by decide +kernel
theorem dX4_hasNode_28 : decode cX4_hasNode 28 = .ok (.invokestatic 47, 3) := by decide +kernel
theorem dX4_hasNode_31 : decode cX4_hasNode 31 = .ok (.ifCond .eq 5, 3) := by decide +kernel
theorem dX4_hasNode_34 : decode cX4_hasNode 34 = .ok (.iconst 1, 1) := by decide +kernel
theorem dX4_hasNode_35 : decode cX4_hasNode 35 = .ok (.ireturn, 1) := by decide +kernel
theorem dX4_hasNode_36 : decode cX4_hasNode 36 = .ok (.iinc 3 1, 3) := by decide +kernel
theorem dX4_hasNode_39 : decode cX4_hasNode 39 = .ok (.goto (-37), 3) := by decide +kernel
theorem dX4_hasNode_42 : decode cX4_hasNode 42 = .ok (.iconst 0, 1) := by decide +kernel
theorem dX4_hasNode_43 : decode cX4_hasNode 43 = .ok (.ireturn, 1) := by decide +kernel
theorem dX5_init_0 : decode cX5_init 0 = .ok (.aload_n 0, 1) := by decide +kernel
theorem dX5_init_1 : decode cX5_init 1 = .ok (.invokespecial 3, 3) := by decide +kernel
theorem dX5_init_4 : decode cX5_init 4 = .ok (.aload_n 0, 1) := by decide +kernel
theorem dX5_init_5 : decode cX5_init 5 = .ok (.sipush 256, 3) := by decide +kernel
theorem dX5_init_8 : decode cX5_init 8 = .ok (.newarray .int, 2) := by decide +kernel
theorem dX5_init_10 : decode cX5_init 10 = .ok (.putfield 11, 3) := by decide +kernel
theorem dX5_init_13 : decode cX5_init 13 = .ok (.aload_n 0, 1) := by decide +kernel
theorem dX5_init_14 : decode cX5_init 14 = .ok (.sipush 256, 3) := by decide +kernel
theorem dX5_init_17 : decode cX5_init 17 = .ok (.newarray .int, 2) := by decide +kernel
theorem dX5_init_19 : decode cX5_init 19 = .ok (.putfield 15, 3) := by decide +kernel
theorem dX5_init_22 : decode cX5_init 22 = .ok (.aload_n 0, 1) := by decide +kernel
theorem dX5_init_23 : decode cX5_init 23 = .ok (.sipush 256, 3) := by decide +kernel
theorem dX5_init_26 : decode cX5_init 26 = .ok (.newarray .int, 2) := by decide +kernel
theorem dX5_init_28 : decode cX5_init 28 = .ok (.putfield 18, 3) := by decide +kernel
theorem dX5_init_31 : decode cX5_init 31 = .ok (.aload_n 0, 1) := by decide +kernel
theorem dX5_init_32 : decode cX5_init 32 = .ok (.sipush 256, 3) := by decide +kernel
theorem dX5_init_35 : decode cX5_init 35 = .ok (.newarray .int, 2) := by decide +kernel
theorem dX5_init_37 : decode cX5_init 37 = .ok (.putfield 21, 3) := by decide +kernel
theorem dX5_init_40 : decode cX5_init 40 = .ok (.aload_n 0, 1) := by decide +kernel
theorem dX5_init_41 : decode cX5_init 41 = .ok (.sipush 256, 3) := by decide +kernel
theorem dX5_init_44 : decode cX5_init 44 = .ok (.newarray .int, 2) := by decide +kernel
theorem dX5_init_46 : decode cX5_init 46 = .ok (.putfield 24, 3) := by decide +kernel
theorem dX5_init_49 : decode cX5_init 49 = .ok (.aload_n 0, 1) := by decide +kernel
theorem dX5_init_50 : decode cX5_init 50 = .ok (.sipush 256, 3) := by decide +kernel
theorem dX5_init_53 : decode cX5_init 53 = .ok (.newarray .int, 2) := by decide +kernel
theorem dX5_init_55 : decode cX5_init 55 = .ok (.putfield 27, 3) := by decide +kernel
theorem dX5_init_58 : decode cX5_init 58 = .ok (.return_, 1) := by decide +kernel
set_option maxRecDepth 20000 in
theorem ggX5_plantWhole_X5_grow : GoodIn wsX5_plantWhole wsX5_grow := goodIn_r _ [7, 1, 8, 9, 10, 11, 12, 13, 14, 15, 16, 17, 18, 19, 20, 21, 22, 23, 24, 25, 26, 27, 28, 29, 30, 31, 32, 33, 6, 34, 35, 36, 37, 38, 39, 40, 41, 2, 42, 43, 44, 45, 46, 47, 48, 49, 50, 51, 52, 53, 54, 55, 56, 57, 58, 3, 4, 5, 59, 60, 61, 62, 63, 64, 65, 66, 67, 68, 69, 70] (by decide +kernel) (by decide +kernel)
set_option maxRecDepth 20000 in
theorem gX5_plantWhole_X5_grow : GoodIn wsX5_plantWhole (wsV RX5 37 RX5 yX5_grow wsX5_grow) := goodIn_app (goodIn_of _ (by decide +kernel)) ggX5_plantWhole_X5_grow
theorem dX5_plantWhole_0 : decode cX5_plantWhole 0 = .ok (.aload_n 0, 1) := by decide +kernel
theorem dX5_plantWhole_1 : decode cX5_plantWhole 1 = .ok (.iconst 0, 1) := by decide +kernel
theorem dX5_plantWhole_2 : decode cX5_plantWhole 2 = .ok (.putfield 30, 3) := by decide +kernel
theorem dX5_plantWhole_5 : decode cX5_plantWhole 5 = .ok (.aload_n 0, 1) := by decide +kernel
theorem dX5_plantWhole_6 : decode cX5_plantWhole 6 = .ok (.aload_n 1, 1) := by decide +kernel
theorem dX5_plantWhole_7 : decode cX5_plantWhole 7 = .ok (.iconst 0, 1) := by decide +kernel
theorem dX5_plantWhole_8 : decode cX5_plantWhole 8 = .ok (.aload_n 1, 1) := by decide +kernel
theorem dX5_plantWhole_9 : decode cX5_plantWhole 9 = .ok (.getfield 34, 3) := by decide +kernel
theorem dX5_plantWhole_12 : decode cX5_plantWhole 12 = .ok (.iconst 0, 1) := by decide +kernel
theorem dX5_plantWhole_13 : decode cX5_plantWhole 13 = .ok (.iconst 0, 1) := by decide +kernel
theorem dX5_plantWhole_14 : decode cX5_plantWhole 14 = .ok (.bipush 16, 2) := by decide +kernel
theorem dX5_plantWhole_16 : decode cX5_plantWhole 16 = .ok (.invokevirtual 37, 3) := by decide +kernel
theorem dX5_plantWhole_19 : decode cX5_plantWhole 19 = .ok (.pop, 1) := by decide +kernel
theorem dX5_plantWhole_20 : decode cX5_plantWhole 20 = .ok (.return_, 1) := by decide +kernel
set_option maxRecDepth 20000 in
theorem ggX5_plant_X5_grow : GoodIn wsX5_plant wsX5_grow := goodIn_r _ [6, 1, 7, 8, 9, 10, 11, 12, 13, 14, 15, 16, 17, 18, 19, 20, 21, 22, 23, 24, 25, 26, 27, 28, 29, 30, 31, 32, 5, 33, 34, 35, 36, 37, 38, 39, 40, 41, 42, 43, 44, 45, 46, 47, 48, 49, 50, 51, 52, 53, 54, 55, 56, 57, 58, 2, 3, 4, 59, 60, 61, 62, 63, 64, 65, 66, 67, 68, 69, 70] (by decide +kernel) (by decide +kernel)
set_option maxRecDepth 20000 in
theorem gX5_plant_X5_grow : GoodIn wsX5_plant (wsV RX5 37 RX5 yX5_grow wsX5_grow) := goodIn_app (goodIn_of _ (by decide +kernel)) ggX5_plant_X5_grow
theorem dX5_plant_0 : decode cX5_plant 0 = .ok (.aload_n 0, 1) := by decide +kernel
theorem dX5_plant_1 : decode cX5_plant 1 = .ok (.iconst 0, 1) := by decide +kernel
theorem dX5_plant_2 : decode cX5_plant 2 = .ok (.putfield 30, 3) := by decide +kernel
theorem dX5_plant_5 : decode cX5_plant 5 = .ok (.aload_n 0, 1) := by decide +kernel
theorem dX5_plant_6 : decode cX5_plant 6 = .ok (.aload_n 1, 1) := by decide +kernel
theorem dX5_plant_7 : decode cX5_plant 7 = .ok (.iload_n 2, 1) := by decide +kernel
theorem dX5_plant_8 : decode cX5_plant 8 = .ok (.iload_n 3, 1) := by decide +kernel
theorem dX5_plant_9 : decode cX5_plant 9 = .ok (.iload 4, 2) := by decide +kernel
theorem dX5_plant_11 : decode cX5_plant 11 = .ok (.iload 5, 2) := by decide +kernel
theorem dX5_plant_13 : decode cX5_plant 13 = .ok (.iload 6, 2) := by decide +kernel
theorem dX5_plant_15 : decode cX5_plant 15 = .ok (.invokevirtual 37, 3) := by decide +kernel
theorem dX5_plant_18 : decode cX5_plant 18 = .ok (.pop, 1) := by decide +kernel
theorem dX5_plant_19 : decode cX5_plant 19 = .ok (.return_, 1) := by decide +kernel
theorem dX5_setOfTop_0 : decode cX5_setOfTop 0 = .ok (.aload_n 0, 1) := by decide +kernel
theorem dX5_setOfTop_1 : decode cX5_setOfTop 1 = .ok (.getfield 30, 3) := by decide +kernel
theorem dX5_setOfTop_4 : decode cX5_setOfTop 4 = .ok (.ifCond .le 12, 3) := by decide +kernel
theorem dX5_setOfTop_7 : decode cX5_setOfTop 7 = .ok (.aload_n 0, 1) := by decide +kernel
theorem dX5_setOfTop_8 : decode cX5_setOfTop 8 = .ok (.getfield 27, 3) := by decide +kernel
theorem dX5_setOfTop_11 : decode cX5_setOfTop 11 = .ok (.iconst 0, 1) := by decide +kernel
theorem dX5_setOfTop_12 : decode cX5_setOfTop 12 = .ok (.iaload, 1) := by decide +kernel
theorem dX5_setOfTop_13 : decode cX5_setOfTop 13 = .ok (.goto 4, 3) := by decide +kernel
theorem dX5_setOfTop_16 : decode cX5_setOfTop 16 = .ok (.iconst (-1), 1) := by decide +kernel
theorem dX5_setOfTop_17 : decode cX5_setOfTop 17 = .ok (.ireturn, 1) := by decide +kernel
set_option maxRecDepth 20000 in
theorem ggX5_grow_X2_isAt : GoodIn wsX5_grow wsX2_isAt := goodIn_r _ [13, 14, 15, 16, 65, 66, 67, 68, 69] (by decide +kernel) (by decide +kernel)
set_option maxRecDepth 20000 in
theorem gX5_grow_X2_isAt : GoodIn wsX5_grow (wsV RX5 41 RX2 yX2_isAt wsX2_isAt) := goodIn_app (goodIn_of _ (by decide +kernel)) ggX5_grow_X2_isAt
set_option maxRecDepth 20000 in
theorem ggX5_grow_X2_firstHigh : GoodIn wsX5_grow wsX2_firstHigh := goodIn_r _ [20, 15, 21, 22, 23, 24, 65, 66, 67, 68, 69] (by decide +kernel) (by decide +kernel)
set_option maxRecDepth 20000 in
theorem gX5_grow_X2_firstHigh : GoodIn wsX5_grow (wsV RX5 46 RX2 yX2_firstHigh wsX2_firstHigh) := goodIn_app (goodIn_of _ (by decide +kernel)) ggX5_grow_X2_firstHigh
set_option maxRecDepth 20000 in
theorem ggX5_grow_X5_growSide : GoodIn wsX5_grow wsX5_growSide := goodIn_r _ [36, 37, 38, 39, 40, 41, 12, 42, 16, 15, 43, 44, 45, 46, 47, 48, 49, 50, 51, 52, 22, 53, 54, 55, 56, 57, 28, 0, 1, 2, 3, 4, 5, 6, 7, 8, 9, 10, 11, 13, 14, 17, 18, 19, 20, 21, 23, 24, 25, 26, 27, 29, 30, 31, 32, 33, 34, 35, 58, 59, 60, 61, 62, 63, 64, 65, 66, 67, 68, 69] (by decide +kernel) (by decide +kernel)
set_option maxRecDepth 20000 in
theorem gX5_grow_X5_growSide : GoodIn wsX5_grow (wsV RX5 50 RX5 yX5_growSide wsX5_growSide) := goodIn_app (goodIn_of _ (by decide +kernel)) ggX5_grow_X5_growSide
set_option maxRecDepth 20000 in
theorem ggX5_grow_X5_setOfSide : GoodIn wsX5_grow wsX5_setOfSide := goodIn_r _ [32, 4, 1, 3, 8, 33, 34, 28, 35, 58, 59, 60, 61, 62, 63, 64] (by decide +kernel) (by decide +kernel)
set_option maxRecDepth 20000 in
theorem gX5_grow_X5_setOfSide : GoodIn wsX5_grow (wsV RX5 54 RX5 yX5_setOfSide wsX5_setOfSide) := goodIn_app (goodIn_of _ (by decide +kernel)) ggX5_grow_X5_setOfSide
set_option maxRecDepth 20000 in
theorem ggX5_grow_X5_both : GoodIn wsX5_grow wsX5_both := goodIn_r _ [35] (by decide +kernel) (by decide +kernel)
set_option maxRecDepth 20000 in
theorem gX5_grow_X5_both : GoodIn wsX5_grow (va_wsS RX5 58 yX5_both wsX5_both) := goodIn_app (goodIn_of _ (by decide +kernel)) ggX5_grow_X5_both
theorem dX5_grow_0 : decode cX5_grow 0 = .ok (.aload_n 0, 1) := by decide +kernel
theorem dX5_grow_1 : decode cX5_grow 1 = .ok (.getfield 30, 3) := by decide +kernel
theorem dX5_grow_4 : decode cX5_grow 4 = .ok (.sipush 256, 3) := by decide +kernel
theorem dX5_grow_7 : decode cX5_grow 7 = .ok (.if_icmp .ge 10, 3) := by decide +kernel
theorem dX5_grow_10 : decode cX5_grow 10 = .ok (.iload 5, 2) := by decide +kernel
theorem dX5_grow_12 : decode cX5_grow 12 = .ok (.bipush 32, 2) := by decide +kernel
theorem dX5_grow_14 : decode cX5_grow 14 = .ok (.if_icmp .le 5, 3) := by decide +kernel
theorem dX5_grow_17 : decode cX5_grow 17 = .ok (.iconst (-1), 1) := by decide +kernel
theorem dX5_grow_18 : decode cX5_grow 18 = .ok (.ireturn, 1) := by decide +kernel
theorem dX5_grow_19 : decode cX5_grow 19 = .ok (.aload_n 0, 1) := by decide +kernel
theorem dX5_grow_20 : decode cX5_grow 20 = .ok (.getfield 30, 3) := by decide +kernel
theorem dX5_grow_23 : decode cX5_grow 23 = .ok (.istore 7, 2) := by decide +kernel
theorem dX5_grow_25 : decode cX5_grow 25 = .ok (.aload_n 0, 1) := by decide +kernel
theorem dX5_grow_26 : decode cX5_grow 26 = .ok (.dup, 1) := by decide +kernel
theorem dX5_grow_27 : decode cX5_grow 27 = .ok (.getfield 30, 3) := by decide +kernel
theorem dX5_grow_30 : decode cX5_grow 30 = .ok (.iconst 1, 1) := by decide +kernel
theorem dX5_grow_31 : decode cX5_grow 31 = .ok (.iadd, 1) := by decide +kernel
theorem dX5_grow_32 : decode cX5_grow 32 = .ok (.putfield 30, 3) := by decide +kernel
theorem dX5_grow_35 : decode cX5_grow 35 = .ok (.iload_n 2, 1) := by decide +kernel
theorem dX5_grow_36 : decode cX5_grow 36 = .ok (.iload_n 3, 1) := by decide +kernel
theorem dX5_grow_37 : decode cX5_grow 37 = .ok (.if_icmp .ge 19, 3) := by decide +kernel
theorem dX5_grow_40 : decode cX5_grow 40 = .ok (.aload_n 1, 1) := by decide +kernel
theorem dX5_grow_41 : decode cX5_grow 41 = .ok (.iload_n 2, 1) := by decide +kernel
theorem dX5_grow_42 : decode cX5_grow 42 = .ok (.iload 4, 2) := by decide +kernel
theorem dX5_grow_44 : decode cX5_grow 44 = .ok (.iload 5, 2) := by decide +kernel
theorem dX5_grow_46 : decode cX5_grow 46 = .ok (.invokevirtual 41, 3) := by decide +kernel
theorem dX5_grow_49 : decode cX5_grow 49 = .ok (.ifCond .eq 7, 3) := by decide +kernel
theorem dX5_grow_52 : decode cX5_grow 52 = .ok (.iconst 1, 1) := by decide +kernel
theorem dX5_grow_53 : decode cX5_grow 53 = .ok (.goto 4, 3) := by decide +kernel
theorem dX5_grow_56 : decode cX5_grow 56 = .ok (.iconst 0, 1) := by decide +kernel
theorem dX5_grow_57 : decode cX5_grow 57 = .ok (.istore 8, 2) := by decide +kernel
theorem dX5_grow_59 : decode cX5_grow 59 = .ok (.iload 8, 2) := by decide +kernel
theorem dX5_grow_61 : decode cX5_grow 61 = .ok (.ifCond .eq 9, 3) := by decide +kernel
theorem dX5_grow_64 : decode cX5_grow 64 = .ok (.iload_n 2, 1) := by decide +kernel
theorem dX5_grow_65 : decode cX5_grow 65 = .ok (.iconst 1, 1) := by decide +kernel
theorem dX5_grow_66 : decode cX5_grow 66 = .ok (.iadd, 1) := by decide +kernel
theorem dX5_grow_67 : decode cX5_grow 67 = .ok (.goto 4, 3) := by decide +kernel
theorem dX5_grow_70 : decode cX5_grow 70 = .ok (.iload_n 2, 1) := by decide +kernel
theorem dX5_grow_71 : decode cX5_grow 71 = .ok (.istore 9, 2) := by decide +kernel
theorem dX5_grow_73 : decode cX5_grow 73 = .ok (.aload_n 0, 1) := by decide +kernel
theorem dX5_grow_74 : decode cX5_grow 74 = .ok (.getfield 11, 3) := by decide +kernel
theorem dX5_grow_77 : decode cX5_grow 77 = .ok (.iload 7, 2) := by decide +kernel
theorem dX5_grow_79 : decode cX5_grow 79 = .ok (.iload 4, 2) := by decide +kernel
theorem dX5_grow_81 : decode cX5_grow 81 = .ok (.iastore, 1) := by decide +kernel
theorem dX5_grow_82 : decode cX5_grow 82 = .ok (.aload_n 0, 1) := by decide +kernel
theorem dX5_grow_83 : decode cX5_grow 83 = .ok (.getfield 15, 3) := by decide +kernel
theorem dX5_grow_86 : decode cX5_grow 86 = .ok (.iload 7, 2) := by decide +kernel
theorem dX5_grow_88 : decode cX5_grow 88 = .ok (.iload 5, 2) := by decide +kernel
theorem dX5_grow_90 : decode cX5_grow 90 = .ok (.iastore, 1) := by decide +kernel
theorem dX5_grow_91 : decode cX5_grow 91 = .ok (.aload_n 0, 1) := by decide +kernel
theorem dX5_grow_92 : decode cX5_grow 92 = .ok (.getfield 18, 3) := by decide +kernel
theorem dX5_grow_95 : decode cX5_grow 95 = .ok (.iload 7, 2) := by decide +kernel
theorem dX5_grow_97 : decode cX5_grow 97 = .ok (.iload 8, 2) := by decide +kernel
theorem dX5_grow_99 : decode cX5_grow 99 = .ok (.ifCond .eq 12, 3) := by decide +kernel
theorem dX5_grow_102 : decode cX5_grow 102 = .ok (.aload_n 1, 1) := by decide +kernel
theorem dX5_grow_103 : decode cX5_grow 103 = .ok (.getfield 45, 3) := by decide +kernel
theorem dX5_grow_106 : decode cX5_grow 106 = .ok (.iload_n 2, 1) := by decide +kernel
theorem dX5_grow_107 : decode cX5_grow 107 = .ok (.iaload, 1) := by decide +kernel
theorem dX5_grow_108 : decode cX5_grow 108 = .ok (.goto 5, 3) := by decide +kernel
theorem dX5_grow_111 : decode cX5_grow 111 = .ok (.iload 6, 2) := by decide +kernel
theorem dX5_grow_113 : decode cX5_grow 113 = .ok (.iastore, 1) := by decide +kernel
theorem dX5_grow_114 : decode cX5_grow 114 = .ok (.aload_n 1, 1) := by decide +kernel
theorem dX5_grow_115 : decode cX5_grow 115 = .ok (.iload 9, 2) := by decide +kernel
theorem dX5_grow_117 : decode cX5_grow 117 = .ok (.iload_n 3, 1) := by decide +kernel
theorem dX5_grow_118 : decode cX5_grow 118 = .ok (.iload 5, 2) := by decide +kernel
theorem dX5_grow_120 : decode cX5_grow 120 = .ok (.invokevirtual 46, 3) := by decide +kernel
theorem dX5_grow_123 : decode cX5_grow 123 = .ok (.istore 10, 2) := by decide +kernel
theorem dX5_grow_125 : decode cX5_grow 125 = .ok (.aload_n 0, 1) := by decide +kernel
theorem dX5_grow_126 : decode cX5_grow 126 = .ok (.getfield 21, 3) := by decide +kernel
theorem dX5_grow_129 : decode cX5_grow 129 = .ok (.iload 7, 2) := by decide +kernel
theorem dX5_grow_131 : decode cX5_grow 131 = .ok (.aload_n 0, 1) := by decide +kernel
theorem dX5_grow_132 : decode cX5_grow 132 = .ok (.aload_n 1, 1) := by decide +kernel
theorem dX5_grow_133 : decode cX5_grow 133 = .ok (.iload 9, 2) := by decide +kernel
theorem dX5_grow_135 : decode cX5_grow 135 = .ok (.iload 10, 2) := by decide +kernel
theorem dX5_grow_137 : decode cX5_grow 137 = .ok (.aload_n 0, 1) := by decide +kernel
theorem dX5_grow_138 : decode cX5_grow 138 = .ok (.getfield 18, 3) := by decide +kernel
theorem dX5_grow_141 : decode cX5_grow 141 = .ok (.iload 7, 2) := by decide +kernel
theorem dX5_grow_143 : decode cX5_grow 143 = .ok (.iaload, 1) := by decide +kernel
theorem dX5_grow_144 : decode cX5_grow 144 = .ok (.invokevirtual 50, 3) := by decide +kernel
theorem dX5_grow_147 : decode cX5_grow 147 = .ok (.iastore, 1) := by decide +kernel
theorem dX5_grow_148 : decode cX5_grow 148 = .ok (.aload_n 0, 1) := by decide +kernel
theorem dX5_grow_149 : decode cX5_grow 149 = .ok (.getfield 24, 3) := by decide +kernel
theorem dX5_grow_152 : decode cX5_grow 152 = .ok (.iload 7, 2) := by decide +kernel
theorem dX5_grow_154 : decode cX5_grow 154 = .ok (.aload_n 0, 1) := by decide +kernel
theorem dX5_grow_155 : decode cX5_grow 155 = .ok (.aload_n 1, 1) := by decide +kernel
theorem dX5_grow_156 : decode cX5_grow 156 = .ok (.iload 10, 2) := by decide +kernel
theorem dX5_grow_158 : decode cX5_grow 158 = .ok (.iload_n 3, 1) := by decide +kernel
theorem dX5_grow_159 : decode cX5_grow 159 = .ok (.aload_n 0, 1) := by decide +kernel
theorem dX5_grow_160 : decode cX5_grow 160 = .ok (.getfield 18, 3) := by decide +kernel
theorem dX5_grow_163 : decode cX5_grow 163 = .ok (.iload 7, 2) := by decide +kernel
theorem dX5_grow_165 : decode cX5_grow 165 = .ok (.iaload, 1) := by decide +kernel
theorem dX5_grow_166 : decode cX5_grow 166 = .ok (.invokevirtual 50, 3) := by decide +kernel
theorem dX5_grow_169 : decode cX5_grow 169 = .ok (.iastore, 1) := by decide +kernel
theorem dX5_grow_170 : decode cX5_grow 170 = .ok (.aload_n 0, 1) := by decide +kernel
theorem dX5_grow_171 : decode cX5_grow 171 = .ok (.getfield 27, 3) := by decide +kernel
theorem dX5_grow_174 : decode cX5_grow 174 = .ok (.iload 7, 2) := by decide +kernel
theorem dX5_grow_176 : decode cX5_grow 176 = .ok (.aload_n 0, 1) := by decide +kernel
theorem dX5_grow_177 : decode cX5_grow 177 = .ok (.iload 7, 2) := by decide +kernel
theorem dX5_grow_179 : decode cX5_grow 179 = .ok (.aload_n 0, 1) := by decide +kernel
theorem dX5_grow_180 : decode cX5_grow 180 = .ok (.getfield 21, 3) := by decide +kernel
theorem dX5_grow_183 : decode cX5_grow 183 = .ok (.iload 7, 2) := by decide +kernel
theorem dX5_grow_185 : decode cX5_grow 185 = .ok (.iaload, 1) := by decide +kernel
theorem dX5_grow_186 : decode cX5_grow 186 = .ok (.invokevirtual 54, 3) := by decide +kernel
theorem dX5_grow_189 : decode cX5_grow 189 = .ok (.aload_n 0, 1) := by decide +kernel
theorem dX5_grow_190 : decode cX5_grow 190 = .ok (.iload 7, 2) := by decide +kernel
theorem dX5_grow_192 : decode cX5_grow 192 = .ok (.aload_n 0, 1) := by decide +kernel
theorem dX5_grow_193 : decode cX5_grow 193 = .ok (.getfield 24, 3) := by decide +kernel
theorem dX5_grow_196 : decode cX5_grow 196 = .ok (.iload 7, 2) := by decide +kernel
theorem dX5_grow_198 : decode cX5_grow 198 = .ok (.iaload, 1) := by decide +kernel
theorem dX5_grow_199 : decode cX5_grow 199 = .ok (.invokevirtual 54, 3) := by decide +kernel
theorem dX5_grow_202 : decode cX5_grow 202 = .ok (.invokestatic 58, 3) := by decide +kernel
theorem dX5_grow_205 : decode cX5_grow 205 = .ok (.iastore, 1) := by decide +kernel
theorem dX5_grow_206 : decode cX5_grow 206 = .ok (.iload 7, 2) := by decide +kernel
theorem dX5_grow_208 : decode cX5_grow 208 = .ok (.ireturn, 1) := by decide +kernel
set_option maxRecDepth 20000 in
theorem ggX5_growSide_X2_commonBits : GoodIn wsX5_growSide wsX2_commonBits := goodIn_r _ [7, 8, 9, 10, 11, 12, 13, 14, 15, 16, 17, 18, 65, 66, 67, 68, 69] (by decide +kernel) (by decide +kernel)
set_option maxRecDepth 20000 in
theorem gX5_growSide_X2_commonBits : GoodIn wsX5_growSide (wsV RX5 61 RX2 yX2_commonBits wsX2_commonBits) := goodIn_app (goodIn_of _ (by decide +kernel)) ggX5_growSide_X2_commonBits
set_option maxRecDepth 20000 in
theorem ggX5_growSide_X7_mask : GoodIn wsX5_growSide wsX7_mask := goodIn_r _ [21, 22, 11, 12, 13] (by decide +kernel) (by decide +kernel)
set_option maxRecDepth 20000 in
theorem gX5_growSide_X7_mask_n65 : GoodIn wsX5_growSide (wsX7_mask) := ggX5_growSide_X7_mask
set_option maxRecDepth 20000 in
theorem ggX5_growSide_X5_grow : GoodIn wsX5_growSide wsX5_grow := goodIn_r _ [27, 28, 29, 30, 31, 32, 33, 34, 35, 36, 37, 38, 6, 39, 40, 9, 8, 41, 42, 43, 44, 45, 20, 46, 47, 48, 49, 50, 26, 51, 52, 53, 54, 55, 56, 57, 0, 1, 2, 3, 4, 5, 7, 10, 11, 12, 13, 14, 15, 16, 17, 18, 19, 21, 22, 23, 24, 25, 58, 59, 60, 61, 62, 63, 64, 65, 66, 67, 68, 69] (by decide +kernel) (by decide +kernel)
set_option maxRecDepth 20000 in
theorem gX5_growSide_X5_grow : GoodIn wsX5_growSide (wsV RX5 37 RX5 yX5_grow wsX5_grow) := goodIn_app (goodIn_of _ (by decide +kernel)) ggX5_growSide_X5_grow
theorem dX5_growSide_0 : decode cX5_growSide 0 = .ok (.iload_n 2, 1) := by decide +kernel
theorem dX5_growSide_1 : decode cX5_growSide 1 = .ok (.ifCond .lt 16, 3) := by decide +kernel
theorem dX5_growSide_4 : decode cX5_growSide 4 = .ok (.iload_n 2, 1) := by decide +kernel
theorem dX5_growSide_5 : decode cX5_growSide 5 = .ok (.iload_n 3, 1) := by decide +kernel
theorem dX5_growSide_6 : decode cX5_growSide 6 = .ok (.if_icmp .ge 11, 3) := by decide +kernel
theorem dX5_growSide_9 : decode cX5_growSide 9 = .ok (.iload_n 3, 1) := by decide +kernel
theorem dX5_growSide_10 : decode cX5_growSide 10 = .ok (.aload_n 1, 1) := by decide +kernel
theorem dX5_growSide_11 : decode cX5_growSide 11 = .ok (.getfield 34, 3) := by decide +kernel
theorem dX5_growSide_14 : decode cX5_growSide 14 = .ok (.if_icmp .le 5, 3) := by decide +kernel
theorem dX5_growSide_17 : decode cX5_growSide 17 = .ok (.iconst (-1), 1) := by decide +kernel
theorem dX5_growSide_18 : decode cX5_growSide 18 = .ok (.ireturn, 1) := by decide +kernel
theorem dX5_growSide_19 : decode cX5_growSide 19 = .ok (.aload_n 1, 1) := by decide +kernel
theorem dX5_growSide_20 : decode cX5_growSide 20 = .ok (.iload_n 2, 1) := by decide +kernel
theorem dX5_growSide_21 : decode cX5_growSide 21 = .ok (.iload_n 3, 1) := by decide +kernel
theorem dX5_growSide_22 : decode cX5_growSide 22 = .ok (.iconst 1, 1) := by decide +kernel
theorem dX5_growSide_23 : decode cX5_growSide 23 = .ok (.isub, 1) := by decide +kernel
theorem dX5_growSide_24 : decode cX5_growSide 24 = .ok (.invokevirtual 61, 3) := by decide +kernel
theorem dX5_growSide_27 : decode cX5_growSide 27 = .ok (.istore 5, 2) := by decide +kernel
theorem dX5_growSide_29 : decode cX5_growSide 29 = .ok (.aload_n 0, 1) := by decide +kernel
theorem dX5_growSide_30 : decode cX5_growSide 30 = .ok (.aload_n 1, 1) := by decide +kernel
theorem dX5_growSide_31 : decode cX5_growSide 31 = .ok (.iload_n 2, 1) := by decide +kernel
theorem dX5_growSide_32 : decode cX5_growSide 32 = .ok (.iload_n 3, 1) := by decide +kernel
theorem dX5_growSide_33 : decode cX5_growSide 33 = .ok (.aload_n 1, 1) := by decide +kernel
theorem dX5_growSide_34 : decode cX5_growSide 34 = .ok (.getfield 64, 3) := by decide +kernel
theorem dX5_growSide_37 : decode cX5_growSide 37 = .ok (.iload_n 2, 1) := by decide +kernel
theorem dX5_growSide_38 : decode cX5_growSide 38 = .ok (.iaload, 1) := by decide +kernel
theorem dX5_growSide_39 : decode cX5_growSide 39 = .ok (.iload 5, 2) := by decide +kernel
theorem dX5_growSide_41 : decode cX5_growSide 41 = .ok (.invokestatic 65, 3) := by decide +kernel
theorem dX5_growSide_44 : decode cX5_growSide 44 = .ok (.iand, 1) := by decide +kernel
theorem dX5_growSide_45 : decode cX5_growSide 45 = .ok (.iload 5, 2) := by decide +kernel
theorem dX5_growSide_47 : decode cX5_growSide 47 = .ok (.iload 4, 2) := by decide +kernel
theorem dX5_growSide_49 : decode cX5_growSide 49 = .ok (.invokevirtual 37, 3) := by decide +kernel
theorem dX5_growSide_52 : decode cX5_growSide 52 = .ok (.ireturn, 1) := by decide +kernel
set_option maxRecDepth 20000 in
theorem ggX5_setOfSide_X5_both : GoodIn wsX5_setOfSide wsX5_both := goodIn_r _ [8] (by decide +kernel) (by decide +kernel)
set_option maxRecDepth 20000 in
theorem gX5_setOfSide_X5_both : GoodIn wsX5_setOfSide (va_wsS RX5 58 yX5_both wsX5_both) := goodIn_app (goodIn_of _ (by decide +kernel)) ggX5_setOfSide_X5_both
theorem dX5_setOfSide_0 : decode cX5_setOfSide 0 = .ok (.iconst 1, 1) := by decide +kernel
theorem dX5_setOfSide_1 : decode cX5_setOfSide 1 = .ok (.aload_n 0, 1) := by decide +kernel
theorem dX5_setOfSide_2 : decode cX5_setOfSide 2 = .ok (.getfield 18, 3) := by decide +kernel
theorem dX5_setOfSide_5 : decode cX5_setOfSide 5 = .ok (.iload_n 1, 1) := by decide +kernel
theorem dX5_setOfSide_6 : decode cX5_setOfSide 6 = .ok (.iaload, 1) := by decide +kernel
theorem dX5_setOfSide_7 : decode cX5_setOfSide 7 = .ok (.ishl, 1) := by decide +kernel
theorem dX5_setOfSide_8 : decode cX5_setOfSide 8 = .ok (.istore_n 3, 1) := by decide +kernel
theorem dX5_setOfSide_9 : decode cX5_setOfSide 9 = .ok (.iload_n 2, 1) := by decide +kernel
theorem dX5_setOfSide_10 : decode cX5_setOfSide 10 = .ok (.ifCond .lt 11, 3) := by decide +kernel
theorem dX5_setOfSide_13 : decode cX5_setOfSide 13 = .ok (.iload_n 2, 1) := by decide +kernel
theorem dX5_setOfSide_14 : decode cX5_setOfSide 14 = .ok (.aload_n 0, 1) := by decide +kernel
theorem dX5_setOfSide_15 : decode cX5_setOfSide 15 = .ok (.getfield 30, 3) := by decide +kernel
theorem dX5_setOfSide_18 : decode cX5_setOfSide 18 = .ok (.if_icmp .lt 5, 3) := by decide +kernel
theorem dX5_setOfSide_21 : decode cX5_setOfSide 21 = .ok (.iload_n 3, 1) := by decide +kernel
theorem dX5_setOfSide_22 : decode cX5_setOfSide 22 = .ok (.ireturn, 1) := by decide +kernel
theorem dX5_setOfSide_23 : decode cX5_setOfSide 23 = .ok (.aload_n 0, 1) := by decide +kernel
theorem dX5_setOfSide_24 : decode cX5_setOfSide 24 = .ok (.getfield 15, 3) := by decide +kernel
theorem dX5_setOfSide_27 : decode cX5_setOfSide 27 = .ok (.iload_n 2, 1) := by decide +kernel
theorem dX5_setOfSide_28 : decode cX5_setOfSide 28 = .ok (.iaload, 1) := by decide +kernel
theorem dX5_setOfSide_29 : decode cX5_setOfSide 29 = .ok (.aload_n 0, 1) := by decide +kernel
theorem dX5_setOfSide_30 : decode cX5_setOfSide 30 = .ok (.getfield 15, 3) := by decide +kernel
theorem dX5_setOfSide_33 : decode cX5_setOfSide 33 = .ok (.iload_n 1, 1) := by decide +kernel
theorem dX5_setOfSide_34 : decode cX5_setOfSide 34 = .ok (.iaload, 1) := by decide +kernel
theorem dX5_setOfSide_35 : decode cX5_setOfSide 35 = .ok (.isub, 1) := by decide +kernel
theorem dX5_setOfSide_36 : decode cX5_setOfSide 36 = .ok (.iconst 1, 1) := by decide +kernel
theorem dX5_setOfSide_37 : decode cX5_setOfSide 37 = .ok (.isub, 1) := by decide +kernel
theorem dX5_setOfSide_38 : decode cX5_setOfSide 38 = .ok (.istore 4, 2) := by decide +kernel
theorem dX5_setOfSide_40 : decode cX5_setOfSide 40 = .ok (.iload 4, 2) := by decide +kernel
theorem dX5_setOfSide_42 : decode cX5_setOfSide 42 = .ok (.ifCond .gt 10, 3) := by decide +kernel
theorem dX5_setOfSide_45 : decode cX5_setOfSide 45 = .ok (.aload_n 0, 1) := by decide +kernel
theorem dX5_setOfSide_46 : decode cX5_setOfSide 46 = .ok (.getfield 27, 3) := by decide +kernel
theorem dX5_setOfSide_49 : decode cX5_setOfSide 49 = .ok (.iload_n 2, 1) := by decide +kernel
theorem dX5_setOfSide_50 : decode cX5_setOfSide 50 = .ok (.iaload, 1) := by decide +kernel
theorem dX5_setOfSide_51 : decode cX5_setOfSide 51 = .ok (.ireturn, 1) := by decide +kernel
theorem dX5_setOfSide_52 : decode cX5_setOfSide 52 = .ok (.iload 4, 2) := by decide +kernel
theorem dX5_setOfSide_54 : decode cX5_setOfSide 54 = .ok (.iconst 1, 1) := by decide +kernel
theorem dX5_setOfSide_55 : decode cX5_setOfSide 55 = .ok (.if_icmp .ne 16, 3) := by decide +kernel
theorem dX5_setOfSide_58 : decode cX5_setOfSide 58 = .ok (.aload_n 0, 1) := by decide +kernel
theorem dX5_setOfSide_59 : decode cX5_setOfSide 59 = .ok (.getfield 27, 3) := by decide +kernel
theorem dX5_setOfSide_62 : decode cX5_setOfSide 62 = .ok (.iload_n 2, 1) := by decide +kernel
theorem dX5_setOfSide_63 : decode cX5_setOfSide 63 = .ok (.iaload, 1) := by decide +kernel
theorem dX5_setOfSide_64 : decode cX5_setOfSide 64 = .ok (.iload_n 3, 1) := by decide +kernel
theorem dX5_setOfSide_65 : decode cX5_setOfSide 65 = .ok (.invokestatic 58, 3) := by decide +kernel
theorem dX5_setOfSide_68 : decode cX5_setOfSide 68 = .ok (.goto 4, 3) := by decide +kernel
theorem dX5_setOfSide_71 : decode cX5_setOfSide 71 = .ok (.iload_n 3, 1) := by decide +kernel
theorem dX5_setOfSide_72 : decode cX5_setOfSide 72 = .ok (.ireturn, 1) := by decide +kernel
theorem dX5_both_0 : decode cX5_both 0 = .ok (.iload_n 0, 1) := by decide +kernel
theorem dX5_both_1 : decode cX5_both 1 = .ok (.iload_n 1, 1) := by decide +kernel
theorem dX5_both_2 : decode cX5_both 2 = .ok (.iand, 1) := by decide +kernel
theorem dX5_both_3 : decode cX5_both 3 = .ok (.ifCond .eq 9, 3) := by decide +kernel
theorem dX5_both_6 : decode cX5_both 6 = .ok (.iload_n 0, 1) := by decide +kernel
theorem dX5_both_7 : decode cX5_both 7 = .ok (.iload_n 1, 1) := by decide +kernel
theorem dX5_both_8 : decode cX5_both 8 = .ok (.iand, 1) := by decide +kernel
theorem dX5_both_9 : decode cX5_both 9 = .ok (.goto 6, 3) := by decide +kernel
theorem dX5_both_12 : decode cX5_both 12 = .ok (.iload_n 0, 1) := by decide +kernel
theorem dX5_both_13 : decode cX5_both 13 = .ok (.iload_n 1, 1) := by decide +kernel
theorem dX5_both_14 : decode cX5_both 14 = .ok (.ior, 1) := by decide +kernel
theorem dX5_both_15 : decode cX5_both 15 = .ok (.ireturn, 1) := by decide +kernel
set_option maxRecDepth 20000 in
theorem ggX5_writeLeast_X2_clear : GoodIn wsX5_writeLeast wsX2_clear := goodIn_r _ [5, 6, 54, 55, 56, 57, 58] (by decide +kernel) (by decide +kernel)
set_option maxRecDepth 20000 in
theorem gX5_writeLeast_X2_clear : GoodIn wsX5_writeLeast (wsV RX5 69 RX2 yX2_clear wsX2_clear) := goodIn_app (goodIn_of _ (by decide +kernel)) ggX5_writeLeast_X2_clear
set_option maxRecDepth 20000 in
theorem ggX5_writeLeast_X5_writeNode : GoodIn wsX5_writeLeast wsX5_writeNode := goodIn_r _ [11, 12, 13, 14, 15, 16, 17, 18, 19, 10, 20, 21, 22, 23, 24, 25, 26, 27, 28, 4, 29, 6, 30, 31, 32, 33, 34, 35, 36, 37, 38, 39, 40, 41, 7, 8, 9, 42, 43, 44, 45, 46, 47, 48, 49, 50, 51, 52, 53, 59, 60, 61, 62, 63, 64, 65, 54, 55, 56, 57, 58] (by decide +kernel) (by decide +kernel)
set_option maxRecDepth 20000 in
theorem gX5_writeLeast_X5_writeNode : GoodIn wsX5_writeLeast (wsV RX5 72 RX5 yX5_writeNode wsX5_writeNode) := goodIn_app (goodIn_of _ (by decide +kernel)) ggX5_writeLeast_X5_writeNode
theorem dX5_writeLeast_0 : decode cX5_writeLeast 0 = .ok (.aload_n 1, 1) := by decide +kernel
theorem dX5_writeLeast_1 : decode cX5_writeLeast 1 = .ok (.invokevirtual 69, 3) := by decide +kernel
theorem dX5_writeLeast_4 : decode cX5_writeLeast 4 = .ok (.aload_n 0, 1) := by decide +kernel
theorem dX5_writeLeast_5 : decode cX5_writeLeast 5 = .ok (.aload_n 1, 1) := by decide +kernel
theorem dX5_writeLeast_6 : decode cX5_writeLeast 6 = .ok (.iconst 0, 1) := by decide +kernel
theorem dX5_writeLeast_7 : decode cX5_writeLeast 7 = .ok (.bipush 16, 2) := by decide +kernel
theorem dX5_writeLeast_9 : decode cX5_writeLeast 9 = .ok (.iconst 0, 1) := by decide +kernel
theorem dX5_writeLeast_10 : decode cX5_writeLeast 10 = .ok (.invokevirtual 72, 3) := by decide +kernel
theorem dX5_writeLeast_13 : decode cX5_writeLeast 13 = .ok (.return_, 1) := by decide +kernel
set_option maxRecDepth 20000 in
theorem ggX5_writeNode_X5_writeIfNeeded : GoodIn wsX5_writeNode wsX5_writeIfNeeded := goodIn_r _ [10, 11, 12, 13, 14, 15, 16, 17, 18, 19, 20, 21, 22, 23, 24, 25, 56, 57, 58, 59, 60] (by decide +kernel) (by decide +kernel)
set_option maxRecDepth 20000 in
theorem gX5_writeNode_X5_writeIfNeeded : GoodIn wsX5_writeNode (va_wsS RX5 76 yX5_writeIfNeeded wsX5_writeIfNeeded) := goodIn_app (goodIn_of _ (by decide +kernel)) ggX5_writeNode_X5_writeIfNeeded
set_option maxRecDepth 20000 in
theorem ggX5_writeNode_X5_writeSide : GoodIn wsX5_writeNode wsX5_writeSide := goodIn_r _ [33, 3, 1, 34, 35, 36, 9, 37, 38, 39, 40, 41, 4, 42, 43, 44, 7, 8, 10, 11, 12, 13, 14, 15, 16, 17, 18, 19, 20, 21, 22, 23, 24, 25, 45, 46, 47, 0, 2, 5, 6, 26, 27, 28, 29, 30, 31, 32, 48, 49, 50, 51, 52, 53, 54, 55, 56, 57, 58, 59, 60] (by decide +kernel) (by decide +kernel)
set_option maxRecDepth 20000 in
theorem gX5_writeNode_X5_writeSide : GoodIn wsX5_writeNode (wsV RX5 80 RX5 yX5_writeSide wsX5_writeSide) := goodIn_app (goodIn_of _ (by decide +kernel)) ggX5_writeNode_X5_writeSide
set_option maxRecDepth 20000 in
theorem ggX5_writeNode_X7_bitAt : GoodIn wsX5_writeNode wsX7_bitAt := goodIn_r _ [31, 32] (by decide +kernel) (by decide +kernel)
set_option maxRecDepth 20000 in
theorem gX5_writeNode_X7_bitAt_n84 : GoodIn wsX5_writeNode (wsX7_bitAt) := ggX5_writeNode_X7_bitAt
theorem dX5_writeNode_0 : decode cX5_writeNode 0 = .ok (.iload_n 2, 1) := by decide +kernel
theorem dX5_writeNode_1 : decode cX5_writeNode 1 = .ok (.ifCond .lt 18, 3) := by decide +kernel
theorem dX5_writeNode_4 : decode cX5_writeNode 4 = .ok (.iload_n 2, 1) := by decide +kernel
theorem dX5_writeNode_5 : decode cX5_writeNode 5 = .ok (.aload_n 0, 1) := by decide +kernel
theorem dX5_writeNode_6 : decode cX5_writeNode 6 = .ok (.getfield 30, 3) := by decide +kernel
theorem dX5_writeNode_9 : decode cX5_writeNode 9 = .ok (.if_icmp .ge 10, 3) := by decide +kernel
theorem dX5_writeNode_12 : decode cX5_writeNode 12 = .ok (.iload 4, 2) := by decide +kernel
theorem dX5_writeNode_14 : decode cX5_writeNode 14 = .ok (.bipush 32, 2) := by decide +kernel
theorem dX5_writeNode_16 : decode cX5_writeNode 16 = .ok (.if_icmp .le 4, 3) := by decide +kernel
theorem dX5_writeNode_19 : decode cX5_writeNode 19 = .ok (.return_, 1) := by decide +kernel
theorem dX5_writeNode_20 : decode cX5_writeNode 20 = .ok (.aload_n 1, 1) := by decide +kernel
theorem dX5_writeNode_21 : decode cX5_writeNode 21 = .ok (.aload_n 0, 1) := by decide +kernel
theorem dX5_writeNode_22 : decode cX5_writeNode 22 = .ok (.getfield 11, 3) := by decide +kernel
theorem dX5_writeNode_25 : decode cX5_writeNode 25 = .ok (.iload_n 2, 1) := by decide +kernel
theorem dX5_writeNode_26 : decode cX5_writeNode 26 = .ok (.iaload, 1) := by decide +kernel
theorem dX5_writeNode_27 : decode cX5_writeNode 27 = .ok (.aload_n 0, 1) := by decide +kernel
theorem dX5_writeNode_28 : decode cX5_writeNode 28 = .ok (.getfield 15, 3) := by decide +kernel
theorem dX5_writeNode_31 : decode cX5_writeNode 31 = .ok (.iload_n 2, 1) := by decide +kernel
theorem dX5_writeNode_32 : decode cX5_writeNode 32 = .ok (.iaload, 1) := by decide +kernel
theorem dX5_writeNode_33 : decode cX5_writeNode 33 = .ok (.aload_n 0, 1) := by decide +kernel
theorem dX5_writeNode_34 : decode cX5_writeNode 34 = .ok (.getfield 27, 3) := by decide +kernel
theorem dX5_writeNode_37 : decode cX5_writeNode 37 = .ok (.iload_n 2, 1) := by decide +kernel
theorem dX5_writeNode_38 : decode cX5_writeNode 38 = .ok (.iaload, 1) := by decide +kernel
theorem dX5_writeNode_39 : decode cX5_writeNode 39 = .ok (.iload_n 3, 1) := by decide +kernel
theorem dX5_writeNode_40 : decode cX5_writeNode 40 = .ok (.invokestatic 76, 3) := by decide +kernel
theorem dX5_writeNode_43 : decode cX5_writeNode 43 = .ok (.istore 5, 2) := by decide +kernel
theorem dX5_writeNode_45 : decode cX5_writeNode 45 = .ok (.aload_n 0, 1) := by decide +kernel
theorem dX5_writeNode_46 : decode cX5_writeNode 46 = .ok (.getfield 21, 3) := by decide +kernel
theorem dX5_writeNode_49 : decode cX5_writeNode 49 = .ok (.iload_n 2, 1) := by decide +kernel
theorem dX5_writeNode_50 : decode cX5_writeNode 50 = .ok (.iaload, 1) := by decide +kernel
theorem dX5_writeNode_51 : decode cX5_writeNode 51 = .ok (.iconst (-1), 1) := by decide +kernel
theorem dX5_writeNode_52 : decode cX5_writeNode 52 = .ok (.if_icmp .ne 14, 3) := by decide +kernel
theorem dX5_writeNode_55 : decode cX5_writeNode 55 = .ok (.aload_n 0, 1) := by decide +kernel
theorem dX5_writeNode_56 : decode cX5_writeNode 56 = .ok (.getfield 24, 3) := by decide +kernel
theorem dX5_writeNode_59 : decode cX5_writeNode 59 = .ok (.iload_n 2, 1) := by decide +kernel
theorem dX5_writeNode_60 : decode cX5_writeNode 60 = .ok (.iaload, 1) := by decide +kernel
theorem dX5_writeNode_61 : decode cX5_writeNode 61 = .ok (.iconst (-1), 1) := by decide +kernel
theorem dX5_writeNode_62 : decode cX5_writeNode 62 = .ok (.if_icmp .ne 4, 3) := by decide +kernel
theorem dX5_writeNode_65 : decode cX5_writeNode 65 = .ok (.return_, 1) := by decide +kernel
theorem dX5_writeNode_66 : decode cX5_writeNode 66 = .ok (.aload_n 0, 1) := by decide +kernel
theorem dX5_writeNode_67 : decode cX5_writeNode 67 = .ok (.aload_n 1, 1) := by decide +kernel
theorem dX5_writeNode_68 : decode cX5_writeNode 68 = .ok (.iload_n 2, 1) := by decide +kernel
theorem dX5_writeNode_69 : decode cX5_writeNode 69 = .ok (.aload_n 0, 1) := by decide +kernel
theorem dX5_writeNode_70 : decode cX5_writeNode 70 = .ok (.getfield 21, 3) := by decide +kernel
theorem dX5_writeNode_73 : decode cX5_writeNode 73 = .ok (.iload_n 2, 1) := by decide +kernel
theorem dX5_writeNode_74 : decode cX5_writeNode 74 = .ok (.iaload, 1) := by decide +kernel
theorem dX5_writeNode_75 : decode cX5_writeNode 75 = .ok (.aload_n 0, 1) := by decide +kernel
theorem dX5_writeNode_76 : decode cX5_writeNode 76 = .ok (.getfield 11, 3) := by decide +kernel
theorem dX5_writeNode_79 : decode cX5_writeNode 79 = .ok (.iload_n 2, 1) := by decide +kernel
theorem dX5_writeNode_80 : decode cX5_writeNode 80 = .ok (.iaload, 1) := by decide +kernel
theorem dX5_writeNode_81 : decode cX5_writeNode 81 = .ok (.iload 5, 2) := by decide +kernel
theorem dX5_writeNode_83 : decode cX5_writeNode 83 = .ok (.iload 4, 2) := by decide +kernel
theorem dX5_writeNode_85 : decode cX5_writeNode 85 = .ok (.invokevirtual 80, 3) := by decide +kernel
theorem dX5_writeNode_88 : decode cX5_writeNode 88 = .ok (.aload_n 0, 1) := by decide +kernel
theorem dX5_writeNode_89 : decode cX5_writeNode 89 = .ok (.aload_n 1, 1) := by decide +kernel
theorem dX5_writeNode_90 : decode cX5_writeNode 90 = .ok (.iload_n 2, 1) := by decide +kernel
theorem dX5_writeNode_91 : decode cX5_writeNode 91 = .ok (.aload_n 0, 1) := by decide +kernel
theorem dX5_writeNode_92 : decode cX5_writeNode 92 = .ok (.getfield 24, 3) := by decide +kernel
theorem dX5_writeNode_95 : decode cX5_writeNode 95 = .ok (.iload_n 2, 1) := by decide +kernel
theorem dX5_writeNode_96 : decode cX5_writeNode 96 = .ok (.iaload, 1) := by decide +kernel
theorem dX5_writeNode_97 : decode cX5_writeNode 97 = .ok (.aload_n 0, 1) := by decide +kernel
theorem dX5_writeNode_98 : decode cX5_writeNode 98 = .ok (.getfield 11, 3) := by decide +kernel
theorem dX5_writeNode_101 : decode cX5_writeNode 101 = .ok (.iload_n 2, 1) := by decide +kernel
theorem dX5_writeNode_102 : decode cX5_writeNode 102 = .ok (.iaload, 1) := by decide +kernel
theorem dX5_writeNode_103 : decode cX5_writeNode 103 = .ok (.aload_n 0, 1) := by decide +kernel
theorem dX5_writeNode_104 : decode cX5_writeNode 104 = .ok (.getfield 15, 3) := by decide +kernel
theorem dX5_writeNode_107 : decode cX5_writeNode 107 = .ok (.iload_n 2, 1) := by decide +kernel
theorem dX5_writeNode_108 : decode cX5_writeNode 108 = .ok (.iaload, 1) := by decide +kernel
theorem dX5_writeNode_109 : decode cX5_writeNode 109 = .ok (.invokestatic 84, 3) := by decide +kernel
theorem dX5_writeNode_112 : decode cX5_writeNode 112 = .ok (.ior, 1) := by decide +kernel
theorem dX5_writeNode_113 : decode cX5_writeNode 113 = .ok (.iload 5, 2) := by decide +kernel
theorem dX5_writeNode_115 : decode cX5_writeNode 115 = .ok (.iload 4, 2) := by decide +kernel
theorem dX5_writeNode_117 : decode cX5_writeNode 117 = .ok (.invokevirtual 80, 3) := by decide +kernel
theorem dX5_writeNode_120 : decode cX5_writeNode 120 = .ok (.return_, 1) := by decide +kernel
set_option maxRecDepth 20000 in
theorem ggX5_writeSide_X5_writeNode : GoodIn wsX5_writeSide wsX5_writeNode := goodIn_r _ [37, 2, 38, 1, 12, 39, 40, 16, 17, 6, 18, 19, 20, 21, 22, 23, 24, 25, 26, 27, 28, 29, 30, 31, 32, 33, 41, 42, 43, 44, 45, 46, 47, 0, 3, 4, 5, 7, 8, 9, 10, 11, 13, 14, 15, 34, 35, 36, 48, 49, 50, 51, 52, 53, 54, 55, 56, 57, 58, 59, 60] (by decide +kernel) (by decide +kernel)
set_option maxRecDepth 20000 in
theorem gX5_writeSide_X5_writeNode : GoodIn wsX5_writeSide (wsV RX5 72 RX5 yX5_writeNode wsX5_writeNode) := goodIn_app (goodIn_of _ (by decide +kernel)) ggX5_writeSide_X5_writeNode
set_option maxRecDepth 20000 in
theorem ggX5_writeSide_X5_setOfSide : GoodIn wsX5_writeSide wsX5_setOfSide := goodIn_r _ [10, 11, 2, 1, 12, 13, 14, 6, 15, 49, 50, 51, 52, 53, 54, 55] (by decide +kernel) (by decide +kernel)
set_option maxRecDepth 20000 in
theorem gX5_writeSide_X5_setOfSide : GoodIn wsX5_writeSide (wsV RX5 54 RX5 yX5_setOfSide wsX5_setOfSide) := goodIn_app (goodIn_of _ (by decide +kernel)) ggX5_writeSide_X5_setOfSide
set_option maxRecDepth 20000 in
theorem ggX5_writeSide_X5_writeIfNeeded : GoodIn wsX5_writeSide wsX5_writeIfNeeded := goodIn_r _ [18, 19, 20, 21, 22, 23, 24, 25, 26, 27, 28, 29, 30, 31, 32, 33, 56, 57, 58, 59, 60] (by decide +kernel) (by decide +kernel)
set_option maxRecDepth 20000 in
theorem gX5_writeSide_X5_writeIfNeeded : GoodIn wsX5_writeSide (va_wsS RX5 76 yX5_writeIfNeeded wsX5_writeIfNeeded) := goodIn_app (goodIn_of _ (by decide +kernel)) ggX5_writeSide_X5_writeIfNeeded
set_option maxRecDepth 20000 in
theorem ggX5_writeSide_X5_writeWithTwin : GoodIn wsX5_writeSide wsX5_writeWithTwin := goodIn_r _ [48, 1, 38, 11, 44, 45, 46, 47, 16, 17, 6, 18, 19, 20, 21, 22, 23, 24, 25, 26, 27, 28, 29, 30, 31, 32, 33, 3, 4, 5, 37, 2, 12, 39, 40, 41, 42, 43, 0, 7, 8, 9, 10, 13, 14, 15, 34, 35, 36, 49, 50, 51, 52, 53, 54, 55, 56, 57, 58, 59, 60] (by decide +kernel) (by decide +kernel)
set_option maxRecDepth 20000 in
theorem gX5_writeSide_X5_writeWithTwin : GoodIn wsX5_writeSide (wsV RX5 87 RX5 yX5_writeWithTwin wsX5_writeWithTwin) := goodIn_app (goodIn_of _ (by decide +kernel)) ggX5_writeSide_X5_writeWithTwin
theorem dX5_writeSide_0 : decode cX5_writeSide 0 = .ok (.aload_n 0, 1) := by decide +kernel
theorem dX5_writeSide_1 : decode cX5_writeSide 1 = .ok (.getfield 15, 3) := by decide +kernel
theorem dX5_writeSide_4 : decode cX5_writeSide 4 = .ok (.iload_n 2, 1) := by decide +kernel
theorem dX5_writeSide_5 : decode cX5_writeSide 5 = .ok (.iaload, 1) := by decide +kernel
theorem dX5_writeSide_6 : decode cX5_writeSide 6 = .ok (.iconst 1, 1) := by decide +kernel
theorem dX5_writeSide_7 : decode cX5_writeSide 7 = .ok (.iadd, 1) := by decide +kernel
theorem dX5_writeSide_8 : decode cX5_writeSide 8 = .ok (.istore 7, 2) := by decide +kernel
theorem dX5_writeSide_10 : decode cX5_writeSide 10 = .ok (.iload_n 3, 1) := by decide +kernel
theorem dX5_writeSide_11 : decode cX5_writeSide 11 = .ok (.ifCond .lt 35, 3) := by decide +kernel
theorem dX5_writeSide_14 : decode cX5_writeSide 14 = .ok (.iload_n 3, 1) := by decide +kernel
theorem dX5_writeSide_15 : decode cX5_writeSide 15 = .ok (.aload_n 0, 1) := by decide +kernel
theorem dX5_writeSide_16 : decode cX5_writeSide 16 = .ok (.getfield 30, 3) := by decide +kernel
theorem dX5_writeSide_19 : decode cX5_writeSide 19 = .ok (.if_icmp .ge 27, 3) := by decide +kernel
theorem dX5_writeSide_22 : decode cX5_writeSide 22 = .ok (.aload_n 0, 1) := by decide +kernel
theorem dX5_writeSide_23 : decode cX5_writeSide 23 = .ok (.getfield 15, 3) := by decide +kernel
theorem dX5_writeSide_26 : decode cX5_writeSide 26 = .ok (.iload_n 3, 1) := by decide +kernel
theorem dX5_writeSide_27 : decode cX5_writeSide 27 = .ok (.iaload, 1) := by decide +kernel
theorem dX5_writeSide_28 : decode cX5_writeSide 28 = .ok (.iload 7, 2) := by decide +kernel
theorem dX5_writeSide_30 : decode cX5_writeSide 30 = .ok (.if_icmp .ne 16, 3) := by decide +kernel
theorem dX5_writeSide_33 : decode cX5_writeSide 33 = .ok (.aload_n 0, 1) := by decide +kernel
theorem dX5_writeSide_34 : decode cX5_writeSide 34 = .ok (.aload_n 1, 1) := by decide +kernel
theorem dX5_writeSide_35 : decode cX5_writeSide 35 = .ok (.iload_n 3, 1) := by decide +kernel
theorem dX5_writeSide_36 : decode cX5_writeSide 36 = .ok (.iload 5, 2) := by decide +kernel
theorem dX5_writeSide_38 : decode cX5_writeSide 38 = .ok (.iload 6, 2) := by decide +kernel
theorem dX5_writeSide_40 : decode cX5_writeSide 40 = .ok (.iconst 1, 1) := by decide +kernel
theorem dX5_writeSide_41 : decode cX5_writeSide 41 = .ok (.iadd, 1) := by decide +kernel
theorem dX5_writeSide_42 : decode cX5_writeSide 42 = .ok (.invokevirtual 72, 3) := by decide +kernel
theorem dX5_writeSide_45 : decode cX5_writeSide 45 = .ok (.return_, 1) := by decide +kernel
theorem dX5_writeSide_46 : decode cX5_writeSide 46 = .ok (.aload_n 1, 1) := by decide +kernel
theorem dX5_writeSide_47 : decode cX5_writeSide 47 = .ok (.iload 4, 2) := by decide +kernel
theorem dX5_writeSide_49 : decode cX5_writeSide 49 = .ok (.iload 7, 2) := by decide +kernel
theorem dX5_writeSide_51 : decode cX5_writeSide 51 = .ok (.aload_n 0, 1) := by decide +kernel
theorem dX5_writeSide_52 : decode cX5_writeSide 52 = .ok (.iload_n 2, 1) := by decide +kernel
theorem dX5_writeSide_53 : decode cX5_writeSide 53 = .ok (.iload_n 3, 1) := by decide +kernel
theorem dX5_writeSide_54 : decode cX5_writeSide 54 = .ok (.invokevirtual 54, 3) := by decide +kernel
theorem dX5_writeSide_57 : decode cX5_writeSide 57 = .ok (.iload 5, 2) := by decide +kernel
theorem dX5_writeSide_59 : decode cX5_writeSide 59 = .ok (.invokestatic 76, 3) := by decide +kernel
theorem dX5_writeSide_62 : decode cX5_writeSide 62 = .ok (.istore 8, 2) := by decide +kernel
theorem dX5_writeSide_64 : decode cX5_writeSide 64 = .ok (.iload_n 3, 1) := by decide +kernel
theorem dX5_writeSide_65 : decode cX5_writeSide 65 = .ok (.ifCond .lt 22, 3) := by decide +kernel
theorem dX5_writeSide_68 : decode cX5_writeSide 68 = .ok (.iload_n 3, 1) := by decide +kernel
theorem dX5_writeSide_69 : decode cX5_writeSide 69 = .ok (.aload_n 0, 1) := by decide +kernel
theorem dX5_writeSide_70 : decode cX5_writeSide 70 = .ok (.getfield 30, 3) := by decide +kernel
theorem dX5_writeSide_73 : decode cX5_writeSide 73 = .ok (.if_icmp .ge 14, 3) := by decide +kernel
theorem dX5_writeSide_76 : decode cX5_writeSide 76 = .ok (.aload_n 0, 1) := by decide +kernel
theorem dX5_writeSide_77 : decode cX5_writeSide 77 = .ok (.aload_n 1, 1) := by decide +kernel
theorem dX5_writeSide_78 : decode cX5_writeSide 78 = .ok (.iload_n 2, 1) := by decide +kernel
theorem dX5_writeSide_79 : decode cX5_writeSide 79 = .ok (.iload_n 3, 1) := by decide +kernel
theorem dX5_writeSide_80 : decode cX5_writeSide 80 = .ok (.iload 8, 2) := by decide +kernel
theorem dX5_writeSide_82 : decode cX5_writeSide 82 = .ok (.iload 6, 2) := by decide +kernel
theorem dX5_writeSide_84 : decode cX5_writeSide 84 = .ok (.invokevirtual 87, 3) := by decide +kernel
theorem dX5_writeSide_87 : decode cX5_writeSide 87 = .ok (.return_, 1) := by decide +kernel
set_option maxRecDepth 20000 in
theorem ggX5_writeWithTwin_X7_bitAt : GoodIn wsX5_writeWithTwin wsX7_bitAt := goodIn_r _ [6, 7] (by decide +kernel) (by decide +kernel)
set_option maxRecDepth 20000 in
theorem gX5_writeWithTwin_X7_bitAt_n84 : GoodIn wsX5_writeWithTwin (wsX7_bitAt) := ggX5_writeWithTwin_X7_bitAt
set_option maxRecDepth 20000 in
theorem ggX5_writeWithTwin_X5_writeIfNeeded : GoodIn wsX5_writeWithTwin wsX5_writeIfNeeded := goodIn_r _ [11, 12, 13, 14, 15, 16, 17, 18, 19, 20, 21, 22, 23, 24, 25, 26, 56, 57, 58, 59, 60] (by decide +kernel) (by decide +kernel)
set_option maxRecDepth 20000 in
theorem gX5_writeWithTwin_X5_writeIfNeeded : GoodIn wsX5_writeWithTwin (va_wsS RX5 76 yX5_writeIfNeeded wsX5_writeIfNeeded) := goodIn_app (goodIn_of _ (by decide +kernel)) ggX5_writeWithTwin_X5_writeIfNeeded
set_option maxRecDepth 20000 in
theorem ggX5_writeWithTwin_X5_writeNode : GoodIn wsX5_writeWithTwin wsX5_writeNode := goodIn_r _ [30, 31, 2, 1, 32, 33, 34, 8, 9, 10, 11, 12, 13, 14, 15, 16, 17, 18, 19, 20, 21, 22, 23, 24, 25, 26, 35, 36, 37, 4, 5, 6, 7, 38, 27, 28, 29, 39, 40, 41, 42, 3, 43, 44, 45, 46, 47, 48, 0, 49, 50, 51, 52, 53, 54, 55, 56, 57, 58, 59, 60] (by decide +kernel) (by decide +kernel)
set_option maxRecDepth 20000 in
theorem gX5_writeWithTwin_X5_writeNode : GoodIn wsX5_writeWithTwin (wsV RX5 72 RX5 yX5_writeNode wsX5_writeNode) := goodIn_app (goodIn_of _ (by decide +kernel)) ggX5_writeWithTwin_X5_writeNode
theorem dX5_writeWithTwin_0 : decode cX5_writeWithTwin 0 = .ok (.aload_n 0, 1) := by decide +kernel
theorem dX5_writeWithTwin_1 : decode cX5_writeWithTwin 1 = .ok (.getfield 15, 3) := by decide +kernel
theorem dX5_writeWithTwin_4 : decode cX5_writeWithTwin 4 = .ok (.iload_n 3, 1) := by decide +kernel
theorem dX5_writeWithTwin_5 : decode cX5_writeWithTwin 5 = .ok (.iaload, 1) := by decide +kernel
theorem dX5_writeWithTwin_6 : decode cX5_writeWithTwin 6 = .ok (.istore 6, 2) := by decide +kernel
theorem dX5_writeWithTwin_8 : decode cX5_writeWithTwin 8 = .ok (.iload 6, 2) := by decide +kernel
theorem dX5_writeWithTwin_10 : decode cX5_writeWithTwin 10 = .ok (.iconst 1, 1) := by decide +kernel
theorem dX5_writeWithTwin_11 : decode cX5_writeWithTwin 11 = .ok (.isub, 1) := by decide +kernel
theorem dX5_writeWithTwin_12 : decode cX5_writeWithTwin 12 = .ok (.invokestatic 84, 3) := by decide +kernel
theorem dX5_writeWithTwin_15 : decode cX5_writeWithTwin 15 = .ok (.istore 7, 2) := by decide +kernel
theorem dX5_writeWithTwin_17 : decode cX5_writeWithTwin 17 = .ok (.aload_n 0, 1) := by decide +kernel
theorem dX5_writeWithTwin_18 : decode cX5_writeWithTwin 18 = .ok (.getfield 11, 3) := by decide +kernel
theorem dX5_writeWithTwin_21 : decode cX5_writeWithTwin 21 = .ok (.iload_n 3, 1) := by decide +kernel
theorem dX5_writeWithTwin_22 : decode cX5_writeWithTwin 22 = .ok (.iaload, 1) := by decide +kernel
theorem dX5_writeWithTwin_23 : decode cX5_writeWithTwin 23 = .ok (.iload 7, 2) := by decide +kernel
theorem dX5_writeWithTwin_25 : decode cX5_writeWithTwin 25 = .ok (.ixor, 1) := by decide +kernel
theorem dX5_writeWithTwin_26 : decode cX5_writeWithTwin 26 = .ok (.istore 8, 2) := by decide +kernel
theorem dX5_writeWithTwin_28 : decode cX5_writeWithTwin 28 = .ok (.iconst 1, 1) := by decide +kernel
theorem dX5_writeWithTwin_29 : decode cX5_writeWithTwin 29 = .ok (.aload_n 0, 1) := by decide +kernel
theorem dX5_writeWithTwin_30 : decode cX5_writeWithTwin 30 = .ok (.getfield 18, 3) := by decide +kernel
theorem dX5_writeWithTwin_33 : decode cX5_writeWithTwin 33 = .ok (.iload_n 2, 1) := by decide +kernel
theorem dX5_writeWithTwin_34 : decode cX5_writeWithTwin 34 = .ok (.iaload, 1) := by decide +kernel
theorem dX5_writeWithTwin_35 : decode cX5_writeWithTwin 35 = .ok (.ishl, 1) := by decide +kernel
theorem dX5_writeWithTwin_36 : decode cX5_writeWithTwin 36 = .ok (.istore 9, 2) := by decide +kernel
theorem dX5_writeWithTwin_38 : decode cX5_writeWithTwin 38 = .ok (.iload 8, 2) := by decide +kernel
theorem dX5_writeWithTwin_40 : decode cX5_writeWithTwin 40 = .ok (.iload 7, 2) := by decide +kernel
theorem dX5_writeWithTwin_42 : decode cX5_writeWithTwin 42 = .ok (.iand, 1) := by decide +kernel
theorem dX5_writeWithTwin_43 : decode cX5_writeWithTwin 43 = .ok (.ifCond .ne 31, 3) := by decide +kernel
theorem dX5_writeWithTwin_46 : decode cX5_writeWithTwin 46 = .ok (.aload_n 1, 1) := by decide +kernel
theorem dX5_writeWithTwin_47 : decode cX5_writeWithTwin 47 = .ok (.iload 8, 2) := by decide +kernel
theorem dX5_writeWithTwin_49 : decode cX5_writeWithTwin 49 = .ok (.iload 6, 2) := by decide +kernel
theorem dX5_writeWithTwin_51 : decode cX5_writeWithTwin 51 = .ok (.iload 9, 2) := by decide +kernel
theorem dX5_writeWithTwin_53 : decode cX5_writeWithTwin 53 = .ok (.iload 4, 2) := by decide +kernel
theorem dX5_writeWithTwin_55 : decode cX5_writeWithTwin 55 = .ok (.invokestatic 76, 3) := by decide +kernel
theorem dX5_writeWithTwin_58 : decode cX5_writeWithTwin 58 = .ok (.pop, 1) := by decide +kernel
theorem dX5_writeWithTwin_59 : decode cX5_writeWithTwin 59 = .ok (.aload_n 0, 1) := by decide +kernel
theorem dX5_writeWithTwin_60 : decode cX5_writeWithTwin 60 = .ok (.aload_n 1, 1) := by decide +kernel
theorem dX5_writeWithTwin_61 : decode cX5_writeWithTwin 61 = .ok (.iload_n 3, 1) := by decide +kernel
theorem dX5_writeWithTwin_62 : decode cX5_writeWithTwin 62 = .ok (.iload 4, 2) := by decide +kernel
theorem dX5_writeWithTwin_64 : decode cX5_writeWithTwin 64 = .ok (.iload 5, 2) := by decide +kernel
theorem dX5_writeWithTwin_66 : decode cX5_writeWithTwin 66 = .ok (.iconst 1, 1) := by decide +kernel
theorem dX5_writeWithTwin_67 : decode cX5_writeWithTwin 67 = .ok (.iadd, 1) := by decide +kernel
theorem dX5_writeWithTwin_68 : decode cX5_writeWithTwin 68 = .ok (.invokevirtual 72, 3) := by decide +kernel
theorem dX5_writeWithTwin_71 : decode cX5_writeWithTwin 71 = .ok (.goto 28, 3) := by decide +kernel
theorem dX5_writeWithTwin_74 : decode cX5_writeWithTwin 74 = .ok (.aload_n 0, 1) := by decide +kernel
theorem dX5_writeWithTwin_75 : decode cX5_writeWithTwin 75 = .ok (.aload_n 1, 1) := by decide +kernel
theorem dX5_writeWithTwin_76 : decode cX5_writeWithTwin 76 = .ok (.iload_n 3, 1) := by decide +kernel
theorem dX5_writeWithTwin_77 : decode cX5_writeWithTwin 77 = .ok (.iload 4, 2) := by decide +kernel
theorem dX5_writeWithTwin_79 : decode cX5_writeWithTwin 79 = .ok (.iload 5, 2) := by decide +kernel
theorem dX5_writeWithTwin_81 : decode cX5_writeWithTwin 81 = .ok (.iconst 1, 1) := by decide +kernel
theorem dX5_writeWithTwin_82 : decode cX5_writeWithTwin 82 = .ok (.iadd, 1) := by decide +kernel
theorem dX5_writeWithTwin_83 : decode cX5_writeWithTwin 83 = .ok (.invokevirtual 72, 3) := by decide +kernel
theorem dX5_writeWithTwin_86 : decode cX5_writeWithTwin 86 = .ok (.aload_n 1, 1) := by decide +kernel
theorem dX5_writeWithTwin_87 : decode cX5_writeWithTwin 87 = .ok (.iload 8, 2) := by decide +kernel
theorem dX5_writeWithTwin_89 : decode cX5_writeWithTwin 89 = .ok (.iload 6, 2) := by decide +kernel
theorem dX5_writeWithTwin_91 : decode cX5_writeWithTwin 91 = .ok (.iload 9, 2) := by decide +kernel
theorem dX5_writeWithTwin_93 : decode cX5_writeWithTwin 93 = .ok (.iload 4, 2) := by decide +kernel
theorem dX5_writeWithTwin_95 : decode cX5_writeWithTwin 95 = .ok (.invokestatic 76, 3) := by decide +kernel
theorem dX5_writeWithTwin_98 : decode cX5_writeWithTwin 98 = .ok (.pop, 1) := by decide +kernel
theorem dX5_writeWithTwin_99 : decode cX5_writeWithTwin 99 = .ok (.return_, 1) := by decide +kernel
set_option maxRecDepth 20000 in
theorem ggX5_writeIfNeeded_J6_numberOfTrailingZeros_0f7a4 : GoodIn wsX5_writeIfNeeded wsJ6_numberOfTrailingZeros_0f7a4 := goodIn_r _ [4, 5] (by decide +kernel) (by decide +kernel)
set_option maxRecDepth 20000 in
theorem gX5_writeIfNeeded_J6_numberOfTrailingZeros_0f7a4 : GoodIn wsX5_writeIfNeeded (va_wsS RX5 91 yJ6_numberOfTrailingZeros_0f7a4 wsJ6_numberOfTrailingZeros_0f7a4) := goodIn_app (goodIn_of _ (by decide +kernel)) ggX5_writeIfNeeded_J6_numberOfTrailingZeros_0f7a4
set_option maxRecDepth 20000 in
theorem ggX5_writeIfNeeded_X2_append : GoodIn wsX5_writeIfNeeded wsX2_append := goodIn_r _ [10, 11, 12, 13, 14, 15, 16, 17, 18, 19, 20] (by decide +kernel) (by decide +kernel)
set_option maxRecDepth 20000 in
theorem gX5_writeIfNeeded_X2_append : GoodIn wsX5_writeIfNeeded (wsV RX5 96 RX2 yX2_append wsX2_append) := goodIn_app (goodIn_of _ (by decide +kernel)) ggX5_writeIfNeeded_X2_append
theorem dX5_writeIfNeeded_0 : decode cX5_writeIfNeeded 0 = .ok (.iload_n 3, 1) := by decide +kernel
theorem dX5_writeIfNeeded_1 : decode cX5_writeIfNeeded 1 = .ok (.iconst 1, 1) := by decide +kernel
theorem dX5_writeIfNeeded_2 : decode cX5_writeIfNeeded 2 = .ok (.iload 4, 2) := by decide +kernel
theorem dX5_writeIfNeeded_4 : decode cX5_writeIfNeeded 4 = .ok (.ishl, 1) := by decide +kernel
theorem dX5_writeIfNeeded_5 : decode cX5_writeIfNeeded 5 = .ok (.iand, 1) := by decide +kernel
theorem dX5_writeIfNeeded_6 : decode cX5_writeIfNeeded 6 = .ok (.ifCond .eq 6, 3) := by decide +kernel
theorem dX5_writeIfNeeded_9 : decode cX5_writeIfNeeded 9 = .ok (.iload 4, 2) := by decide +kernel
theorem dX5_writeIfNeeded_11 : decode cX5_writeIfNeeded 11 = .ok (.ireturn, 1) := by decide +kernel
theorem dX5_writeIfNeeded_12 : decode cX5_writeIfNeeded 12 = .ok (.iload_n 3, 1) := by decide +kernel
theorem dX5_writeIfNeeded_13 : decode cX5_writeIfNeeded 13 = .ok (.invokestatic 91, 3) := by decide +kernel
theorem dX5_writeIfNeeded_16 : decode cX5_writeIfNeeded 16 = .ok (.istore 5, 2) := by decide +kernel
theorem dX5_writeIfNeeded_18 : decode cX5_writeIfNeeded 18 = .ok (.aload_n 0, 1) := by decide +kernel
theorem dX5_writeIfNeeded_19 : decode cX5_writeIfNeeded 19 = .ok (.iload_n 1, 1) := by decide +kernel
theorem dX5_writeIfNeeded_20 : decode cX5_writeIfNeeded 20 = .ok (.iload_n 2, 1) := by decide +kernel
theorem dX5_writeIfNeeded_21 : decode cX5_writeIfNeeded 21 = .ok (.iload 5, 2) := by decide +kernel
theorem dX5_writeIfNeeded_23 : decode cX5_writeIfNeeded 23 = .ok (.invokevirtual 96, 3) := by decide +kernel
theorem dX5_writeIfNeeded_26 : decode cX5_writeIfNeeded 26 = .ok (.iload 5, 2) := by decide +kernel
theorem dX5_writeIfNeeded_28 : decode cX5_writeIfNeeded 28 = .ok (.ireturn, 1) := by decide +kernel
set_option maxRecDepth 20000 in
theorem ggX6_init_X2_init : GoodIn wsX6_init wsX2_init := goodIn_r _ [15, 16, 2, 3, 17, 18, 19, 20, 21, 10, 22, 23, 24, 25, 26, 27, 28, 29] (by decide +kernel) (by decide +kernel)
set_option maxRecDepth 20000 in
theorem gX6_init_X2_init : GoodIn wsX6_init (wsX2_init) := ggX6_init_X2_init
theorem dX6_init_0 : decode cX6_init 0 = .ok (.aload_n 0, 1) := by decide +kernel
theorem dX6_init_1 : decode cX6_init 1 = .ok (.invokespecial 3, 3) := by decide +kernel
theorem dX6_init_4 : decode cX6_init 4 = .ok (.aload_n 0, 1) := by decide +kernel
theorem dX6_init_5 : decode cX6_init 5 = .ok (.new 9, 3) := by decide +kernel
theorem dX6_init_8 : decode cX6_init 8 = .ok (.dup, 1) := by decide +kernel
theorem dX6_init_9 : decode cX6_init 9 = .ok (.bipush 64, 2) := by decide +kernel
theorem dX6_init_11 : decode cX6_init 11 = .ok (.invokespecial 11, 3) := by decide +kernel
theorem dX6_init_14 : decode cX6_init 14 = .ok (.putfield 14, 3) := by decide +kernel
theorem dX6_init_17 : decode cX6_init 17 = .ok (.aload_n 0, 1) := by decide +kernel
theorem dX6_init_18 : decode cX6_init 18 = .ok (.new 9, 3) := by decide +kernel
theorem dX6_init_21 : decode cX6_init 21 = .ok (.dup, 1) := by decide +kernel
theorem dX6_init_22 : decode cX6_init 22 = .ok (.bipush 64, 2) := by decide +kernel
theorem dX6_init_24 : decode cX6_init 24 = .ok (.invokespecial 11, 3) := by decide +kernel
theorem dX6_init_27 : decode cX6_init 27 = .ok (.putfield 20, 3) := by decide +kernel
theorem dX6_init_30 : decode cX6_init 30 = .ok (.aload_n 0, 1) := by decide +kernel
theorem dX6_init_31 : decode cX6_init 31 = .ok (.new 9, 3) := by decide +kernel
theorem dX6_init_34 : decode cX6_init 34 = .ok (.dup, 1) := by decide +kernel
theorem dX6_init_35 : decode cX6_init 35 = .ok (.bipush 64, 2) := by decide +kernel
theorem dX6_init_37 : decode cX6_init 37 = .ok (.invokespecial 11, 3) := by decide +kernel
theorem dX6_init_40 : decode cX6_init 40 = .ok (.putfield 23, 3) := by decide +kernel
theorem dX6_init_43 : decode cX6_init 43 = .ok (.aload_n 0, 1) := by decide +kernel
theorem dX6_init_44 : decode cX6_init 44 = .ok (.bipush 33, 2) := by decide +kernel
theorem dX6_init_46 : decode cX6_init 46 = .ok (.newarray .int, 2) := by decide +kernel
theorem dX6_init_48 : decode cX6_init 48 = .ok (.putfield 26, 3) := by decide +kernel
theorem dX6_init_51 : decode cX6_init 51 = .ok (.aload_n 0, 1) := by decide +kernel
theorem dX6_init_52 : decode cX6_init 52 = .ok (.iconst (-1), 1) := by decide +kernel
theorem dX6_init_53 : decode cX6_init 53 = .ok (.putfield 30, 3) := by decide +kernel
theorem dX6_init_56 : decode cX6_init 56 = .ok (.return_, 1) := by decide +kernel
set_option maxRecDepth 20000 in
theorem ggX6_lay_X2_become : GoodIn wsX6_lay wsX2_become := goodIn_r _ [10, 11, 12, 13, 14, 15, 16, 17, 18, 19, 20, 21, 22, 9, 23, 73, 74, 75, 76, 77] (by decide +kernel) (by decide +kernel)
set_option maxRecDepth 20000 in
theorem gX6_lay_X2_become : GoodIn wsX6_lay (wsV RX6 34 RX2 yX2_become wsX2_become) := goodIn_app (goodIn_of _ (by decide +kernel)) ggX6_lay_X2_become
set_option maxRecDepth 20000 in
theorem ggX6_lay_X2_clear : GoodIn wsX6_lay wsX2_clear := goodIn_r _ [27, 11, 73, 74, 75, 76, 77] (by decide +kernel) (by decide +kernel)
set_option maxRecDepth 20000 in
theorem gX6_lay_X2_clear : GoodIn wsX6_lay (wsV RX6 38 RX2 yX2_clear wsX2_clear) := goodIn_app (goodIn_of _ (by decide +kernel)) ggX6_lay_X2_clear
set_option maxRecDepth 20000 in
theorem ggX6_lay_X6_appendPuts : GoodIn wsX6_lay wsX6_appendPuts := goodIn_r _ [32, 4, 33, 34, 35, 2, 36, 37, 38, 9, 39, 19, 40, 41, 42, 43, 11, 44, 45, 46, 47, 17, 18, 48, 49, 50, 51, 52, 53, 54, 55, 56, 57, 58, 59, 12, 73, 74, 75, 76, 77, 68, 69, 70, 71, 72] (by decide +kernel) (by decide +kernel)
set_option maxRecDepth 20000 in
theorem gX6_lay_X6_appendPuts : GoodIn wsX6_lay (wsV RX6 41 RX6 yX6_appendPuts wsX6_appendPuts) := goodIn_app (goodIn_of _ (by decide +kernel)) ggX6_lay_X6_appendPuts
set_option maxRecDepth 20000 in
theorem ggX6_lay_X6_appendDrops : GoodIn wsX6_lay wsX6_appendDrops := goodIn_r _ [63, 4, 33, 34, 3, 35, 64, 65, 66, 9, 67, 40, 41, 42, 43, 11, 44, 45, 46, 47, 17, 18, 48, 49, 50, 51, 52, 53, 54, 55, 56, 57, 58, 59, 12, 19, 73, 74, 75, 76, 77, 68, 69, 70, 71, 72] (by decide +kernel) (by decide +kernel)
set_option maxRecDepth 20000 in
theorem gX6_lay_X6_appendDrops : GoodIn wsX6_lay (wsV RX6 45 RX6 yX6_appendDrops wsX6_appendDrops) := goodIn_app (goodIn_of _ (by decide +kernel)) ggX6_lay_X6_appendDrops
theorem dX6_lay_0 : decode cX6_lay 0 = .ok (.aload_n 0, 1) := by decide +kernel
theorem dX6_lay_1 : decode cX6_lay 1 = .ok (.getfield 14, 3) := by decide +kernel
theorem dX6_lay_4 : decode cX6_lay 4 = .ok (.aload_n 1, 1) := by decide +kernel
theorem dX6_lay_5 : decode cX6_lay 5 = .ok (.invokevirtual 34, 3) := by decide +kernel
theorem dX6_lay_8 : decode cX6_lay 8 = .ok (.aload_n 0, 1) := by decide +kernel
theorem dX6_lay_9 : decode cX6_lay 9 = .ok (.getfield 20, 3) := by decide +kernel
theorem dX6_lay_12 : decode cX6_lay 12 = .ok (.invokevirtual 38, 3) := by decide +kernel
theorem dX6_lay_15 : decode cX6_lay 15 = .ok (.aload_n 0, 1) := by decide +kernel
theorem dX6_lay_16 : decode cX6_lay 16 = .ok (.getfield 23, 3) := by decide +kernel
theorem dX6_lay_19 : decode cX6_lay 19 = .ok (.invokevirtual 38, 3) := by decide +kernel
theorem dX6_lay_22 : decode cX6_lay 22 = .ok (.bipush 32, 2) := by decide +kernel
theorem dX6_lay_24 : decode cX6_lay 24 = .ok (.istore_n 3, 1) := by decide +kernel
theorem dX6_lay_25 : decode cX6_lay 25 = .ok (.iload_n 3, 1) := by decide +kernel
theorem dX6_lay_26 : decode cX6_lay 26 = .ok (.ifCond .lt 16, 3) := by decide +kernel
theorem dX6_lay_29 : decode cX6_lay 29 = .ok (.aload_n 0, 1) := by decide +kernel
theorem dX6_lay_30 : decode cX6_lay 30 = .ok (.aload_n 1, 1) := by decide +kernel
theorem dX6_lay_31 : decode cX6_lay 31 = .ok (.aload_n 2, 1) := by decide +kernel
theorem dX6_lay_32 : decode cX6_lay 32 = .ok (.iload_n 3, 1) := by decide +kernel
theorem dX6_lay_33 : decode cX6_lay 33 = .ok (.invokevirtual 41, 3) := by decide +kernel
theorem dX6_lay_36 : decode cX6_lay 36 = .ok (.iinc 3 (-1), 3) := by decide +kernel
theorem dX6_lay_39 : decode cX6_lay 39 = .ok (.goto (-14), 3) := by decide +kernel
theorem dX6_lay_42 : decode cX6_lay 42 = .ok (.iconst 0, 1) := by decide +kernel
theorem dX6_lay_43 : decode cX6_lay 43 = .ok (.istore_n 3, 1) := by decide +kernel
theorem dX6_lay_44 : decode cX6_lay 44 = .ok (.iload_n 3, 1) := by decide +kernel
theorem dX6_lay_45 : decode cX6_lay 45 = .ok (.bipush 32, 2) := by decide +kernel
theorem dX6_lay_47 : decode cX6_lay 47 = .ok (.if_icmp .gt 16, 3) := by decide +kernel
theorem dX6_lay_50 : decode cX6_lay 50 = .ok (.aload_n 0, 1) := by decide +kernel
theorem dX6_lay_51 : decode cX6_lay 51 = .ok (.aload_n 1, 1) := by decide +kernel
theorem dX6_lay_52 : decode cX6_lay 52 = .ok (.aload_n 2, 1) := by decide +kernel
theorem dX6_lay_53 : decode cX6_lay 53 = .ok (.iload_n 3, 1) := by decide +kernel
theorem dX6_lay_54 : decode cX6_lay 54 = .ok (.invokevirtual 45, 3) := by decide +kernel
theorem dX6_lay_57 : decode cX6_lay 57 = .ok (.iinc 3 1, 3) := by decide +kernel
theorem dX6_lay_60 : decode cX6_lay 60 = .ok (.goto (-16), 3) := by decide +kernel
theorem dX6_lay_63 : decode cX6_lay 63 = .ok (.aload_n 0, 1) := by decide +kernel
theorem dX6_lay_64 : decode cX6_lay 64 = .ok (.aload_n 0, 1) := by decide +kernel
theorem dX6_lay_65 : decode cX6_lay 65 = .ok (.getfield 20, 3) := by decide +kernel
theorem dX6_lay_68 : decode cX6_lay 68 = .ok (.getfield 48, 3) := by decide +kernel
theorem dX6_lay_71 : decode cX6_lay 71 = .ok (.aload_n 0, 1) := by decide +kernel
theorem dX6_lay_72 : decode cX6_lay 72 = .ok (.getfield 23, 3) := by decide +kernel
theorem dX6_lay_75 : decode cX6_lay 75 = .ok (.getfield 48, 3) := by decide +kernel
theorem dX6_lay_78 : decode cX6_lay 78 = .ok (.iadd, 1) := by decide +kernel
theorem dX6_lay_79 : decode cX6_lay 79 = .ok (.putfield 30, 3) := by decide +kernel
theorem dX6_lay_82 : decode cX6_lay 82 = .ok (.return_, 1) := by decide +kernel
set_option maxRecDepth 20000 in
theorem ggX6_appendPuts_X2_hasLine : GoodIn wsX6_appendPuts wsX2_hasLine := goodIn_r _ [10, 11, 12, 13, 14, 9, 15, 16, 17, 18, 19, 20, 21, 22, 23, 24, 25, 26, 27, 28, 29, 30, 36, 37, 38, 39, 40] (by decide +kernel) (by decide +kernel)
set_option maxRecDepth 20000 in
theorem gX6_appendPuts_X2_hasLine : GoodIn wsX6_appendPuts (wsV RX6 58 RX2 yX2_hasLine wsX2_hasLine) := goodIn_app (goodIn_of _ (by decide +kernel)) ggX6_appendPuts_X2_hasLine
set_option maxRecDepth 20000 in
theorem ggX6_appendPuts_X2_append : GoodIn wsX6_appendPuts wsX2_append := goodIn_r _ [34, 16, 35, 21, 22, 11, 36, 37, 38, 39, 40] (by decide +kernel) (by decide +kernel)
set_option maxRecDepth 20000 in
theorem gX6_appendPuts_X2_append : GoodIn wsX6_appendPuts (wsV RX6 62 RX2 yX2_append wsX2_append) := goodIn_app (goodIn_of _ (by decide +kernel)) ggX6_appendPuts_X2_append
theorem dX6_appendPuts_0 : decode cX6_appendPuts 0 = .ok (.iconst 0, 1) := by decide +kernel
theorem dX6_appendPuts_1 : decode cX6_appendPuts 1 = .ok (.istore 4, 2) := by decide +kernel
theorem dX6_appendPuts_3 : decode cX6_appendPuts 3 = .ok (.iload 4, 2) := by decide +kernel
theorem dX6_appendPuts_5 : decode cX6_appendPuts 5 = .ok (.aload_n 2, 1) := by decide +kernel
theorem dX6_appendPuts_6 : decode cX6_appendPuts 6 = .ok (.getfield 48, 3) := by decide +kernel
theorem dX6_appendPuts_9 : decode cX6_appendPuts 9 = .ok (.if_icmp .ge 64, 3) := by decide +kernel
theorem dX6_appendPuts_12 : decode cX6_appendPuts 12 = .ok (.aload_n 2, 1) := by decide +kernel
theorem dX6_appendPuts_13 : decode cX6_appendPuts 13 = .ok (.getfield 49, 3) := by decide +kernel
theorem dX6_appendPuts_16 : decode cX6_appendPuts 16 = .ok (.iload 4, 2) := by decide +kernel
theorem dX6_appendPuts_18 : decode cX6_appendPuts 18 = .ok (.iaload, 1) := by decide +kernel
theorem dX6_appendPuts_19 : decode cX6_appendPuts 19 = .ok (.iload_n 3, 1) := by decide +kernel
theorem dX6_appendPuts_20 : decode cX6_appendPuts 20 = .ok (.if_icmp .ne 47, 3) := by decide +kernel
theorem dX6_appendPuts_23 : decode cX6_appendPuts 23 = .ok (.aload_n 1, 1) := by decide +kernel
theorem dX6_appendPuts_24 : decode cX6_appendPuts 24 = .ok (.aload_n 2, 1) := by decide +kernel
theorem dX6_appendPuts_25 : decode cX6_appendPuts 25 = .ok (.getfield 52, 3) := by decide +kernel
theorem dX6_appendPuts_28 : decode cX6_appendPuts 28 = .ok (.iload 4, 2) := by decide +kernel
theorem dX6_appendPuts_30 : decode cX6_appendPuts 30 = .ok (.iaload, 1) := by decide +kernel
theorem dX6_appendPuts_31 : decode cX6_appendPuts 31 = .ok (.iload_n 3, 1) := by decide +kernel
theorem dX6_appendPuts_32 : decode cX6_appendPuts 32 = .ok (.aload_n 2, 1) := by decide +kernel
theorem dX6_appendPuts_33 : decode cX6_appendPuts 33 = .ok (.getfield 55, 3) := by decide +kernel
theorem dX6_appendPuts_36 : decode cX6_appendPuts 36 = .ok (.iload 4, 2) := by decide +kernel
theorem dX6_appendPuts_38 : decode cX6_appendPuts 38 = .ok (.iaload, 1) := by decide +kernel
theorem dX6_appendPuts_39 : decode cX6_appendPuts 39 = .ok (.invokevirtual 58, 3) := by decide +kernel
theorem dX6_appendPuts_42 : decode cX6_appendPuts 42 = .ok (.ifCond .ne 25, 3) := by decide +kernel
theorem dX6_appendPuts_45 : decode cX6_appendPuts 45 = .ok (.aload_n 0, 1) := by decide +kernel
theorem dX6_appendPuts_46 : decode cX6_appendPuts 46 = .ok (.getfield 20, 3) := by decide +kernel
theorem dX6_appendPuts_49 : decode cX6_appendPuts 49 = .ok (.aload_n 2, 1) := by decide +kernel
end
section
theorem dX6_appendPuts_50 : decode cX6_appendPuts 50 = .ok (.getfield 52, 3) := by decide +kernel
theorem dX6_appendPuts_53 : decode cX6_appendPuts 53 = .ok (.iload 4, 2) := by decide +kernel
theorem dX6_appendPuts_55 : decode cX6_appendPuts 55 = .ok (.iaload, 1) := by decide +kernel
theorem dX6_appendPuts_56 : decode cX6_appendPuts 56 = .ok (.iload_n 3, 1) := by decide +kernel
theorem dX6_appendPuts_57 : decode cX6_appendPuts 57 = .ok (.aload_n 2, 1) := by decide +kernel
theorem dX6_appendPuts_58 : decode cX6_appendPuts 58 = .ok (.getfield 55, 3) := by decide +kernel
theorem dX6_appendPuts_61 : decode cX6_appendPuts 61 = .ok (.iload 4, 2) := by decide +kernel
theorem dX6_appendPuts_63 : decode cX6_appendPuts 63 = .ok (.iaload, 1) := by decide +kernel
theorem dX6_appendPuts_64 : decode cX6_appendPuts 64 = .ok (.invokevirtual 62, 3) := by decide +kernel
theorem dX6_appendPuts_67 : decode cX6_appendPuts 67 = .ok (.iinc 4 1, 3) := by decide +kernel
theorem dX6_appendPuts_70 : decode cX6_appendPuts 70 = .ok (.goto (-67), 3) := by decide +kernel
theorem dX6_appendPuts_73 : decode cX6_appendPuts 73 = .ok (.return_, 1) := by decide +kernel
set_option maxRecDepth 20000 in
theorem ggX6_appendDrops_X2_hasBeginning : GoodIn wsX6_appendDrops wsX2_hasBeginning := goodIn_r _ [10, 11, 12, 13, 9, 14, 15, 16, 17, 18, 19, 20, 21, 22, 23, 24, 25, 26, 27, 28, 29, 36, 37, 38, 39, 40] (by decide +kernel) (by decide +kernel)
set_option maxRecDepth 20000 in
theorem gX6_appendDrops_X2_hasBeginning : GoodIn wsX6_appendDrops (wsV RX6 66 RX2 yX2_hasBeginning wsX2_hasBeginning) := goodIn_app (goodIn_of _ (by decide +kernel)) ggX6_appendDrops_X2_hasBeginning
set_option maxRecDepth 20000 in
theorem ggX6_appendDrops_X2_append : GoodIn wsX6_appendDrops wsX2_append := goodIn_r _ [33, 15, 34, 20, 21, 35, 36, 37, 38, 39, 40] (by decide +kernel) (by decide +kernel)
set_option maxRecDepth 20000 in
theorem gX6_appendDrops_X2_append : GoodIn wsX6_appendDrops (wsV RX6 62 RX2 yX2_append wsX2_append) := goodIn_app (goodIn_of _ (by decide +kernel)) ggX6_appendDrops_X2_append
theorem dX6_appendDrops_0 : decode cX6_appendDrops 0 = .ok (.iconst 0, 1) := by decide +kernel
theorem dX6_appendDrops_1 : decode cX6_appendDrops 1 = .ok (.istore 4, 2) := by decide +kernel
theorem dX6_appendDrops_3 : decode cX6_appendDrops 3 = .ok (.iload 4, 2) := by decide +kernel
theorem dX6_appendDrops_5 : decode cX6_appendDrops 5 = .ok (.aload_n 1, 1) := by decide +kernel
theorem dX6_appendDrops_6 : decode cX6_appendDrops 6 = .ok (.getfield 48, 3) := by decide +kernel
theorem dX6_appendDrops_9 : decode cX6_appendDrops 9 = .ok (.if_icmp .ge 57, 3) := by decide +kernel
theorem dX6_appendDrops_12 : decode cX6_appendDrops 12 = .ok (.aload_n 1, 1) := by decide +kernel
theorem dX6_appendDrops_13 : decode cX6_appendDrops 13 = .ok (.getfield 49, 3) := by decide +kernel
theorem dX6_appendDrops_16 : decode cX6_appendDrops 16 = .ok (.iload 4, 2) := by decide +kernel
theorem dX6_appendDrops_18 : decode cX6_appendDrops 18 = .ok (.iaload, 1) := by decide +kernel
theorem dX6_appendDrops_19 : decode cX6_appendDrops 19 = .ok (.iload_n 3, 1) := by decide +kernel
theorem dX6_appendDrops_20 : decode cX6_appendDrops 20 = .ok (.if_icmp .ne 40, 3) := by decide +kernel
theorem dX6_appendDrops_23 : decode cX6_appendDrops 23 = .ok (.aload_n 2, 1) := by decide +kernel
theorem dX6_appendDrops_24 : decode cX6_appendDrops 24 = .ok (.aload_n 1, 1) := by decide +kernel
theorem dX6_appendDrops_25 : decode cX6_appendDrops 25 = .ok (.getfield 52, 3) := by decide +kernel
theorem dX6_appendDrops_28 : decode cX6_appendDrops 28 = .ok (.iload 4, 2) := by decide +kernel
theorem dX6_appendDrops_30 : decode cX6_appendDrops 30 = .ok (.iaload, 1) := by decide +kernel
theorem dX6_appendDrops_31 : decode cX6_appendDrops 31 = .ok (.iload_n 3, 1) := by decide +kernel
theorem dX6_appendDrops_32 : decode cX6_appendDrops 32 = .ok (.invokevirtual 66, 3) := by decide +kernel
theorem dX6_appendDrops_35 : decode cX6_appendDrops 35 = .ok (.ifCond .ne 25, 3) := by decide +kernel
theorem dX6_appendDrops_38 : decode cX6_appendDrops 38 = .ok (.aload_n 0, 1) := by decide +kernel
theorem dX6_appendDrops_39 : decode cX6_appendDrops 39 = .ok (.getfield 23, 3) := by decide +kernel
theorem dX6_appendDrops_42 : decode cX6_appendDrops 42 = .ok (.aload_n 1, 1) := by decide +kernel
theorem dX6_appendDrops_43 : decode cX6_appendDrops 43 = .ok (.getfield 52, 3) := by decide +kernel
theorem dX6_appendDrops_46 : decode cX6_appendDrops 46 = .ok (.iload 4, 2) := by decide +kernel
theorem dX6_appendDrops_48 : decode cX6_appendDrops 48 = .ok (.iaload, 1) := by decide +kernel
theorem dX6_appendDrops_49 : decode cX6_appendDrops 49 = .ok (.iload_n 3, 1) := by decide +kernel
theorem dX6_appendDrops_50 : decode cX6_appendDrops 50 = .ok (.aload_n 1, 1) := by decide +kernel
theorem dX6_appendDrops_51 : decode cX6_appendDrops 51 = .ok (.getfield 55, 3) := by decide +kernel
theorem dX6_appendDrops_54 : decode cX6_appendDrops 54 = .ok (.iload 4, 2) := by decide +kernel
theorem dX6_appendDrops_56 : decode cX6_appendDrops 56 = .ok (.iaload, 1) := by decide +kernel
theorem dX6_appendDrops_57 : decode cX6_appendDrops 57 = .ok (.invokevirtual 62, 3) := by decide +kernel
theorem dX6_appendDrops_60 : decode cX6_appendDrops 60 = .ok (.iinc 4 1, 3) := by decide +kernel
theorem dX6_appendDrops_63 : decode cX6_appendDrops 63 = .ok (.goto (-60), 3) := by decide +kernel
theorem dX6_appendDrops_66 : decode cX6_appendDrops 66 = .ok (.return_, 1) := by decide +kernel
set_option maxRecDepth 20000 in
theorem ggX6_tell_X2_first : GoodIn wsX6_tell wsX2_first := goodIn_r _ [12, 13, 14, 15, 16, 17, 23, 24, 25, 26, 27] (by decide +kernel) (by decide +kernel)
set_option maxRecDepth 20000 in
theorem gX6_tell_X2_first : GoodIn wsX6_tell (wsV RX6 72 RX2 yX2_first wsX2_first) := goodIn_app (goodIn_of _ (by decide +kernel)) ggX6_tell_X2_first
theorem dX6_tell_0 : decode cX6_tell 0 = .ok (.iload_n 1, 1) := by decide +kernel
theorem dX6_tell_1 : decode cX6_tell 1 = .ok (.ifCond .lt 11, 3) := by decide +kernel
theorem dX6_tell_4 : decode cX6_tell 4 = .ok (.iload_n 1, 1) := by decide +kernel
theorem dX6_tell_5 : decode cX6_tell 5 = .ok (.aload_n 0, 1) := by decide +kernel
theorem dX6_tell_6 : decode cX6_tell 6 = .ok (.getfield 30, 3) := by decide +kernel
theorem dX6_tell_9 : decode cX6_tell 9 = .ok (.if_icmp .lt 7, 3) := by decide +kernel
theorem dX6_tell_12 : decode cX6_tell 12 = .ok (.ldc2_w 70, 3) := by decide +kernel
theorem dX6_tell_15 : decode cX6_tell 15 = .ok (.lreturn, 1) := by decide +kernel
theorem dX6_tell_16 : decode cX6_tell 16 = .ok (.iload_n 1, 1) := by decide +kernel
theorem dX6_tell_17 : decode cX6_tell 17 = .ok (.aload_n 0, 1) := by decide +kernel
theorem dX6_tell_18 : decode cX6_tell 18 = .ok (.getfield 20, 3) := by decide +kernel
theorem dX6_tell_21 : decode cX6_tell 21 = .ok (.getfield 48, 3) := by decide +kernel
theorem dX6_tell_24 : decode cX6_tell 24 = .ok (.if_icmp .ge 7, 3) := by decide +kernel
theorem dX6_tell_27 : decode cX6_tell 27 = .ok (.iconst 1, 1) := by decide +kernel
theorem dX6_tell_28 : decode cX6_tell 28 = .ok (.goto 4, 3) := by decide +kernel
theorem dX6_tell_31 : decode cX6_tell 31 = .ok (.iconst 0, 1) := by decide +kernel
theorem dX6_tell_32 : decode cX6_tell 32 = .ok (.istore_n 3, 1) := by decide +kernel
theorem dX6_tell_33 : decode cX6_tell 33 = .ok (.iload_n 3, 1) := by decide +kernel
theorem dX6_tell_34 : decode cX6_tell 34 = .ok (.ifCond .eq 10, 3) := by decide +kernel
theorem dX6_tell_37 : decode cX6_tell 37 = .ok (.aload_n 0, 1) := by decide +kernel
theorem dX6_tell_38 : decode cX6_tell 38 = .ok (.getfield 20, 3) := by decide +kernel
theorem dX6_tell_41 : decode cX6_tell 41 = .ok (.goto 7, 3) := by decide +kernel
theorem dX6_tell_44 : decode cX6_tell 44 = .ok (.aload_n 0, 1) := by decide +kernel
theorem dX6_tell_45 : decode cX6_tell 45 = .ok (.getfield 23, 3) := by decide +kernel
theorem dX6_tell_48 : decode cX6_tell 48 = .ok (.astore 4, 2) := by decide +kernel
theorem dX6_tell_50 : decode cX6_tell 50 = .ok (.iload_n 3, 1) := by decide +kernel
theorem dX6_tell_51 : decode cX6_tell 51 = .ok (.ifCond .eq 7, 3) := by decide +kernel
theorem dX6_tell_54 : decode cX6_tell 54 = .ok (.iload_n 1, 1) := by decide +kernel
theorem dX6_tell_55 : decode cX6_tell 55 = .ok (.goto 12, 3) := by decide +kernel
theorem dX6_tell_58 : decode cX6_tell 58 = .ok (.iload_n 1, 1) := by decide +kernel
theorem dX6_tell_59 : decode cX6_tell 59 = .ok (.aload_n 0, 1) := by decide +kernel
theorem dX6_tell_60 : decode cX6_tell 60 = .ok (.getfield 20, 3) := by decide +kernel
theorem dX6_tell_63 : decode cX6_tell 63 = .ok (.getfield 48, 3) := by decide +kernel
theorem dX6_tell_66 : decode cX6_tell 66 = .ok (.isub, 1) := by decide +kernel
theorem dX6_tell_67 : decode cX6_tell 67 = .ok (.istore 5, 2) := by decide +kernel
theorem dX6_tell_69 : decode cX6_tell 69 = .ok (.iload_n 2, 1) := by decide +kernel
theorem dX6_tell_70 : decode cX6_tell 70 = .ok (.tableswitch 68 0 3 #[30, 40, 48, 58], 30) := by decide +kernel
theorem dX6_tell_100 : decode cX6_tell 100 = .ok (.iload_n 3, 1) := by decide +kernel
theorem dX6_tell_101 : decode cX6_tell 101 = .ok (.ifCond .eq 7, 3) := by decide +kernel
theorem dX6_tell_104 : decode cX6_tell 104 = .ok (.lconst 1, 1) := by decide +kernel
theorem dX6_tell_105 : decode cX6_tell 105 = .ok (.goto 4, 3) := by decide +kernel
theorem dX6_tell_108 : decode cX6_tell 108 = .ok (.lconst 0, 1) := by decide +kernel
theorem dX6_tell_109 : decode cX6_tell 109 = .ok (.lreturn, 1) := by decide +kernel
theorem dX6_tell_110 : decode cX6_tell 110 = .ok (.aload 4, 2) := by decide +kernel
theorem dX6_tell_112 : decode cX6_tell 112 = .ok (.iload 5, 2) := by decide +kernel
theorem dX6_tell_114 : decode cX6_tell 114 = .ok (.invokevirtual 72, 3) := by decide +kernel
theorem dX6_tell_117 : decode cX6_tell 117 = .ok (.lreturn, 1) := by decide +kernel
theorem dX6_tell_118 : decode cX6_tell 118 = .ok (.aload 4, 2) := by decide +kernel
theorem dX6_tell_120 : decode cX6_tell 120 = .ok (.getfield 49, 3) := by decide +kernel
theorem dX6_tell_123 : decode cX6_tell 123 = .ok (.iload 5, 2) := by decide +kernel
theorem dX6_tell_125 : decode cX6_tell 125 = .ok (.iaload, 1) := by decide +kernel
theorem dX6_tell_126 : decode cX6_tell 126 = .ok (.i2l, 1) := by decide +kernel
theorem dX6_tell_127 : decode cX6_tell 127 = .ok (.lreturn, 1) := by decide +kernel
theorem dX6_tell_128 : decode cX6_tell 128 = .ok (.aload 4, 2) := by decide +kernel
theorem dX6_tell_130 : decode cX6_tell 130 = .ok (.getfield 55, 3) := by decide +kernel
theorem dX6_tell_133 : decode cX6_tell 133 = .ok (.iload 5, 2) := by decide +kernel
theorem dX6_tell_135 : decode cX6_tell 135 = .ok (.iaload, 1) := by decide +kernel
theorem dX6_tell_136 : decode cX6_tell 136 = .ok (.i2l, 1) := by decide +kernel
theorem dX6_tell_137 : decode cX6_tell 137 = .ok (.lreturn, 1) := by decide +kernel
theorem dX6_tell_138 : decode cX6_tell 138 = .ok (.ldc2_w 70, 3) := by decide +kernel
theorem dX6_tell_141 : decode cX6_tell 141 = .ok (.lreturn, 1) := by decide +kernel
set_option maxRecDepth 20000 in
theorem ggX6_goalBehind_X6_noteHolders : GoodIn wsX6_goalBehind wsX6_noteHolders := goodIn_r _ [15, 4, 16, 17, 2, 18, 19, 20, 21, 22, 23, 24, 25, 7, 8, 9, 31, 32, 33, 34, 35, 26, 27, 28, 29, 30] (by decide +kernel) (by decide +kernel)
set_option maxRecDepth 20000 in
theorem gX6_goalBehind_X6_noteHolders : GoodIn wsX6_goalBehind (wsV RX6 76 RX6 yX6_noteHolders wsX6_noteHolders) := goodIn_app (goodIn_of _ (by decide +kernel)) ggX6_goalBehind_X6_noteHolders
theorem dX6_goalBehind_0 : decode cX6_goalBehind 0 = .ok (.iload_n 1, 1) := by decide +kernel
theorem dX6_goalBehind_1 : decode cX6_goalBehind 1 = .ok (.ifCond .lt 11, 3) := by decide +kernel
theorem dX6_goalBehind_4 : decode cX6_goalBehind 4 = .ok (.iload_n 1, 1) := by decide +kernel
theorem dX6_goalBehind_5 : decode cX6_goalBehind 5 = .ok (.aload_n 0, 1) := by decide +kernel
theorem dX6_goalBehind_6 : decode cX6_goalBehind 6 = .ok (.getfield 30, 3) := by decide +kernel
theorem dX6_goalBehind_9 : decode cX6_goalBehind 9 = .ok (.if_icmp .le 5, 3) := by decide +kernel
theorem dX6_goalBehind_12 : decode cX6_goalBehind 12 = .ok (.iconst (-1), 1) := by decide +kernel
theorem dX6_goalBehind_13 : decode cX6_goalBehind 13 = .ok (.ireturn, 1) := by decide +kernel
theorem dX6_goalBehind_14 : decode cX6_goalBehind 14 = .ok (.iconst 0, 1) := by decide +kernel
theorem dX6_goalBehind_15 : decode cX6_goalBehind 15 = .ok (.istore_n 3, 1) := by decide +kernel
theorem dX6_goalBehind_16 : decode cX6_goalBehind 16 = .ok (.iload_n 3, 1) := by decide +kernel
theorem dX6_goalBehind_17 : decode cX6_goalBehind 17 = .ok (.bipush 33, 2) := by decide +kernel
theorem dX6_goalBehind_19 : decode cX6_goalBehind 19 = .ok (.if_icmp .ge 16, 3) := by decide +kernel
theorem dX6_goalBehind_22 : decode cX6_goalBehind 22 = .ok (.aload_n 0, 1) := by decide +kernel
theorem dX6_goalBehind_23 : decode cX6_goalBehind 23 = .ok (.getfield 26, 3) := by decide +kernel
theorem dX6_goalBehind_26 : decode cX6_goalBehind 26 = .ok (.iload_n 3, 1) := by decide +kernel
theorem dX6_goalBehind_27 : decode cX6_goalBehind 27 = .ok (.iconst (-1), 1) := by decide +kernel
theorem dX6_goalBehind_28 : decode cX6_goalBehind 28 = .ok (.iastore, 1) := by decide +kernel
theorem dX6_goalBehind_29 : decode cX6_goalBehind 29 = .ok (.iinc 3 1, 3) := by decide +kernel
theorem dX6_goalBehind_32 : decode cX6_goalBehind 32 = .ok (.goto (-16), 3) := by decide +kernel
theorem dX6_goalBehind_35 : decode cX6_goalBehind 35 = .ok (.aload_n 0, 1) := by decide +kernel
theorem dX6_goalBehind_36 : decode cX6_goalBehind 36 = .ok (.aload_n 0, 1) := by decide +kernel
theorem dX6_goalBehind_37 : decode cX6_goalBehind 37 = .ok (.getfield 14, 3) := by decide +kernel
theorem dX6_goalBehind_40 : decode cX6_goalBehind 40 = .ok (.aload_n 0, 1) := by decide +kernel
theorem dX6_goalBehind_41 : decode cX6_goalBehind 41 = .ok (.getfield 14, 3) := by decide +kernel
theorem dX6_goalBehind_44 : decode cX6_goalBehind 44 = .ok (.getfield 48, 3) := by decide +kernel
theorem dX6_goalBehind_47 : decode cX6_goalBehind 47 = .ok (.iload_n 2, 1) := by decide +kernel
theorem dX6_goalBehind_48 : decode cX6_goalBehind 48 = .ok (.iconst 1, 1) := by decide +kernel
theorem dX6_goalBehind_49 : decode cX6_goalBehind 49 = .ok (.invokevirtual 76, 3) := by decide +kernel
theorem dX6_goalBehind_52 : decode cX6_goalBehind 52 = .ok (.aload_n 0, 1) := by decide +kernel
theorem dX6_goalBehind_53 : decode cX6_goalBehind 53 = .ok (.aload_n 0, 1) := by decide +kernel
theorem dX6_goalBehind_54 : decode cX6_goalBehind 54 = .ok (.getfield 20, 3) := by decide +kernel
theorem dX6_goalBehind_57 : decode cX6_goalBehind 57 = .ok (.iload_n 1, 1) := by decide +kernel
theorem dX6_goalBehind_58 : decode cX6_goalBehind 58 = .ok (.aload_n 0, 1) := by decide +kernel
theorem dX6_goalBehind_59 : decode cX6_goalBehind 59 = .ok (.getfield 20, 3) := by decide +kernel
theorem dX6_goalBehind_62 : decode cX6_goalBehind 62 = .ok (.getfield 48, 3) := by decide +kernel
theorem dX6_goalBehind_65 : decode cX6_goalBehind 65 = .ok (.invokestatic 80, 3) := by decide +kernel
theorem dX6_goalBehind_68 : decode cX6_goalBehind 68 = .ok (.iload_n 2, 1) := by decide +kernel
theorem dX6_goalBehind_69 : decode cX6_goalBehind 69 = .ok (.iconst 1, 1) := by decide +kernel
theorem dX6_goalBehind_70 : decode cX6_goalBehind 70 = .ok (.invokevirtual 76, 3) := by decide +kernel
theorem dX6_goalBehind_73 : decode cX6_goalBehind 73 = .ok (.aload_n 0, 1) := by decide +kernel
theorem dX6_goalBehind_74 : decode cX6_goalBehind 74 = .ok (.aload_n 0, 1) := by decide +kernel
theorem dX6_goalBehind_75 : decode cX6_goalBehind 75 = .ok (.getfield 23, 3) := by decide +kernel
theorem dX6_goalBehind_78 : decode cX6_goalBehind 78 = .ok (.iload_n 1, 1) := by decide +kernel
theorem dX6_goalBehind_79 : decode cX6_goalBehind 79 = .ok (.aload_n 0, 1) := by decide +kernel
theorem dX6_goalBehind_80 : decode cX6_goalBehind 80 = .ok (.getfield 20, 3) := by decide +kernel
theorem dX6_goalBehind_83 : decode cX6_goalBehind 83 = .ok (.getfield 48, 3) := by decide +kernel
theorem dX6_goalBehind_86 : decode cX6_goalBehind 86 = .ok (.isub, 1) := by decide +kernel
theorem dX6_goalBehind_87 : decode cX6_goalBehind 87 = .ok (.iload_n 2, 1) := by decide +kernel
theorem dX6_goalBehind_88 : decode cX6_goalBehind 88 = .ok (.iconst 0, 1) := by decide +kernel
theorem dX6_goalBehind_89 : decode cX6_goalBehind 89 = .ok (.invokevirtual 76, 3) := by decide +kernel
theorem dX6_goalBehind_92 : decode cX6_goalBehind 92 = .ok (.bipush 32, 2) := by decide +kernel
theorem dX6_goalBehind_94 : decode cX6_goalBehind 94 = .ok (.istore_n 3, 1) := by decide +kernel
theorem dX6_goalBehind_95 : decode cX6_goalBehind 95 = .ok (.iload_n 3, 1) := by decide +kernel
theorem dX6_goalBehind_96 : decode cX6_goalBehind 96 = .ok (.ifCond .lt 26, 3) := by decide +kernel
theorem dX6_goalBehind_99 : decode cX6_goalBehind 99 = .ok (.aload_n 0, 1) := by decide +kernel
theorem dX6_goalBehind_100 : decode cX6_goalBehind 100 = .ok (.getfield 26, 3) := by decide +kernel
theorem dX6_goalBehind_103 : decode cX6_goalBehind 103 = .ok (.iload_n 3, 1) := by decide +kernel
theorem dX6_goalBehind_104 : decode cX6_goalBehind 104 = .ok (.iaload, 1) := by decide +kernel
theorem dX6_goalBehind_105 : decode cX6_goalBehind 105 = .ok (.iconst (-1), 1) := by decide +kernel
theorem dX6_goalBehind_106 : decode cX6_goalBehind 106 = .ok (.if_icmp .eq 10, 3) := by decide +kernel
theorem dX6_goalBehind_109 : decode cX6_goalBehind 109 = .ok (.aload_n 0, 1) := by decide +kernel
theorem dX6_goalBehind_110 : decode cX6_goalBehind 110 = .ok (.getfield 26, 3) := by decide +kernel
theorem dX6_goalBehind_113 : decode cX6_goalBehind 113 = .ok (.iload_n 3, 1) := by decide +kernel
theorem dX6_goalBehind_114 : decode cX6_goalBehind 114 = .ok (.iaload, 1) := by decide +kernel
theorem dX6_goalBehind_115 : decode cX6_goalBehind 115 = .ok (.ireturn, 1) := by decide +kernel
theorem dX6_goalBehind_116 : decode cX6_goalBehind 116 = .ok (.iinc 3 (-1), 3) := by decide +kernel
theorem dX6_goalBehind_119 : decode cX6_goalBehind 119 = .ok (.goto (-24), 3) := by decide +kernel
theorem dX6_goalBehind_122 : decode cX6_goalBehind 122 = .ok (.bipush 16, 2) := by decide +kernel
theorem dX6_goalBehind_124 : decode cX6_goalBehind 124 = .ok (.ireturn, 1) := by decide +kernel
set_option maxRecDepth 20000 in
theorem ggX6_noteHolders_X7_begins : GoodIn wsX6_noteHolders wsX7_begins := goodIn_r _ [8, 9, 10, 7, 11, 12, 13, 14, 15] (by decide +kernel) (by decide +kernel)
set_option maxRecDepth 20000 in
theorem gX6_noteHolders_X7_begins_n86 : GoodIn wsX6_noteHolders (wsX7_begins) := ggX6_noteHolders_X7_begins
theorem dX6_noteHolders_0 : decode cX6_noteHolders 0 = .ok (.iconst 0, 1) := by decide +kernel
theorem dX6_noteHolders_1 : decode cX6_noteHolders 1 = .ok (.istore 5, 2) := by decide +kernel
theorem dX6_noteHolders_3 : decode cX6_noteHolders 3 = .ok (.iload 5, 2) := by decide +kernel
theorem dX6_noteHolders_5 : decode cX6_noteHolders 5 = .ok (.iload_n 2, 1) := by decide +kernel
theorem dX6_noteHolders_6 : decode cX6_noteHolders 6 = .ok (.if_icmp .ge 67, 3) := by decide +kernel
theorem dX6_noteHolders_9 : decode cX6_noteHolders 9 = .ok (.iload 5, 2) := by decide +kernel
theorem dX6_noteHolders_11 : decode cX6_noteHolders 11 = .ok (.aload_n 1, 1) := by decide +kernel
theorem dX6_noteHolders_12 : decode cX6_noteHolders 12 = .ok (.getfield 48, 3) := by decide +kernel
theorem dX6_noteHolders_15 : decode cX6_noteHolders 15 = .ok (.if_icmp .ge 58, 3) := by decide +kernel
theorem dX6_noteHolders_18 : decode cX6_noteHolders 18 = .ok (.iload_n 3, 1) := by decide +kernel
theorem dX6_noteHolders_19 : decode cX6_noteHolders 19 = .ok (.aload_n 1, 1) := by decide +kernel
theorem dX6_noteHolders_20 : decode cX6_noteHolders 20 = .ok (.getfield 52, 3) := by decide +kernel
theorem dX6_noteHolders_23 : decode cX6_noteHolders 23 = .ok (.iload 5, 2) := by decide +kernel
theorem dX6_noteHolders_25 : decode cX6_noteHolders 25 = .ok (.iaload, 1) := by decide +kernel
theorem dX6_noteHolders_26 : decode cX6_noteHolders 26 = .ok (.aload_n 1, 1) := by decide +kernel
theorem dX6_noteHolders_27 : decode cX6_noteHolders 27 = .ok (.getfield 49, 3) := by decide +kernel
theorem dX6_noteHolders_30 : decode cX6_noteHolders 30 = .ok (.iload 5, 2) := by decide +kernel
theorem dX6_noteHolders_32 : decode cX6_noteHolders 32 = .ok (.iaload, 1) := by decide +kernel
theorem dX6_noteHolders_33 : decode cX6_noteHolders 33 = .ok (.invokestatic 86, 3) := by decide +kernel
theorem dX6_noteHolders_36 : decode cX6_noteHolders 36 = .ok (.ifCond .eq 31, 3) := by decide +kernel
theorem dX6_noteHolders_39 : decode cX6_noteHolders 39 = .ok (.aload_n 0, 1) := by decide +kernel
theorem dX6_noteHolders_40 : decode cX6_noteHolders 40 = .ok (.getfield 26, 3) := by decide +kernel
theorem dX6_noteHolders_43 : decode cX6_noteHolders 43 = .ok (.aload_n 1, 1) := by decide +kernel
theorem dX6_noteHolders_44 : decode cX6_noteHolders 44 = .ok (.getfield 49, 3) := by decide +kernel
theorem dX6_noteHolders_47 : decode cX6_noteHolders 47 = .ok (.iload 5, 2) := by decide +kernel
theorem dX6_noteHolders_49 : decode cX6_noteHolders 49 = .ok (.iaload, 1) := by decide +kernel
theorem dX6_noteHolders_50 : decode cX6_noteHolders 50 = .ok (.iload 4, 2) := by decide +kernel
theorem dX6_noteHolders_52 : decode cX6_noteHolders 52 = .ok (.ifCond .eq 13, 3) := by decide +kernel
theorem dX6_noteHolders_55 : decode cX6_noteHolders 55 = .ok (.aload_n 1, 1) := by decide +kernel
theorem dX6_noteHolders_56 : decode cX6_noteHolders 56 = .ok (.getfield 55, 3) := by decide +kernel
theorem dX6_noteHolders_59 : decode cX6_noteHolders 59 = .ok (.iload 5, 2) := by decide +kernel
theorem dX6_noteHolders_61 : decode cX6_noteHolders 61 = .ok (.iaload, 1) := by decide +kernel
theorem dX6_noteHolders_62 : decode cX6_noteHolders 62 = .ok (.goto 4, 3) := by decide +kernel
theorem dX6_noteHolders_65 : decode cX6_noteHolders 65 = .ok (.iconst (-1), 1) := by decide +kernel
theorem dX6_noteHolders_66 : decode cX6_noteHolders 66 = .ok (.iastore, 1) := by decide +kernel
theorem dX6_noteHolders_67 : decode cX6_noteHolders 67 = .ok (.iinc 5 1, 3) := by decide +kernel
theorem dX6_noteHolders_70 : decode cX6_noteHolders 70 = .ok (.goto (-67), 3) := by decide +kernel
theorem dX6_noteHolders_73 : decode cX6_noteHolders 73 = .ok (.return_, 1) := by decide +kernel
set_option maxRecDepth 20000 in
theorem ggX7_init_X2_init : GoodIn wsX7_init wsX2_init := goodIn_r _ [33, 34, 2, 3, 35, 36, 37, 38, 39, 40, 41, 42, 43, 87, 88, 89, 90, 91] (by decide +kernel) (by decide +kernel)
set_option maxRecDepth 20000 in
theorem gX7_init_X2_init : GoodIn wsX7_init (wsX2_init) := ggX7_init_X2_init
set_option maxRecDepth 20000 in
theorem ggX7_init_X5_init : GoodIn wsX7_init wsX5_init := goodIn_r _ [45, 46, 2, 3, 40, 47, 48, 49, 50, 51, 52, 92, 93, 94, 95, 96, 97, 98] (by decide +kernel) (by decide +kernel)
set_option maxRecDepth 20000 in
theorem gX7_init_X5_init_n27 : GoodIn wsX7_init (wsX5_init) := ggX7_init_X5_init
set_option maxRecDepth 20000 in
theorem ggX7_init_X3_init : GoodIn wsX7_init wsX3_init := goodIn_r _ [54, 55, 2, 3, 56, 57, 40, 58, 59, 99, 100, 101, 102, 103, 104] (by decide +kernel) (by decide +kernel)
set_option maxRecDepth 20000 in
theorem gX7_init_X3_init_n34 : GoodIn wsX7_init (wsX3_init) := ggX7_init_X3_init
set_option maxRecDepth 20000 in
theorem ggX7_init_X1_init : GoodIn wsX7_init wsX1_init := goodIn_r _ [61, 62, 2, 3] (by decide +kernel) (by decide +kernel)
set_option maxRecDepth 20000 in
theorem gX7_init_X1_init_n44 : GoodIn wsX7_init (wsX1_init) := ggX7_init_X1_init
set_option maxRecDepth 20000 in
theorem ggX7_init_X0_init : GoodIn wsX7_init wsX0_init := goodIn_r _ [64, 65, 2, 3, 56, 66, 40, 67, 107, 108, 109] (by decide +kernel) (by decide +kernel)
set_option maxRecDepth 20000 in
theorem gX7_init_X0_init_n51 : GoodIn wsX7_init (wsX0_init) := ggX7_init_X0_init
set_option maxRecDepth 20000 in
theorem ggX7_init_X6_init : GoodIn wsX7_init wsX6_init := goodIn_r _ [69, 70, 2, 3, 71, 6, 7, 72, 73, 74, 40, 75, 76, 77, 32, 33, 34, 35, 36, 37, 38, 39, 41, 42, 43, 87, 88, 89, 90, 91, 110, 111, 112, 113, 114] (by decide +kernel) (by decide +kernel)
set_option maxRecDepth 20000 in
theorem gX7_init_X6_init_n58 : GoodIn wsX7_init (wsX6_init) := ggX7_init_X6_init
theorem dX7_init_0 : decode cX7_init 0 = .ok (.aload_n 0, 1) := by decide +kernel
theorem dX7_init_1 : decode cX7_init 1 = .ok (.invokespecial 1, 3) := by decide +kernel
theorem dX7_init_4 : decode cX7_init 4 = .ok (.aload_n 0, 1) := by decide +kernel
theorem dX7_init_5 : decode cX7_init 5 = .ok (.bipush 6, 2) := by decide +kernel
theorem dX7_init_7 : decode cX7_init 7 = .ok (.anewarray 9, 3) := by decide +kernel
theorem dX7_init_10 : decode cX7_init 10 = .ok (.putfield 11, 3) := by decide +kernel
theorem dX7_init_13 : decode cX7_init 13 = .ok (.iconst 0, 1) := by decide +kernel
theorem dX7_init_14 : decode cX7_init 14 = .ok (.istore_n 1, 1) := by decide +kernel
theorem dX7_init_15 : decode cX7_init 15 = .ok (.iload_n 1, 1) := by decide +kernel
theorem dX7_init_16 : decode cX7_init 16 = .ok (.bipush 6, 2) := by decide +kernel
theorem dX7_init_18 : decode cX7_init 18 = .ok (.if_icmp .ge 24, 3) := by decide +kernel
theorem dX7_init_21 : decode cX7_init 21 = .ok (.aload_n 0, 1) := by decide +kernel
theorem dX7_init_22 : decode cX7_init 22 = .ok (.getfield 11, 3) := by decide +kernel
theorem dX7_init_25 : decode cX7_init 25 = .ok (.iload_n 1, 1) := by decide +kernel
theorem dX7_init_26 : decode cX7_init 26 = .ok (.new 9, 3) := by decide +kernel
theorem dX7_init_29 : decode cX7_init 29 = .ok (.dup, 1) := by decide +kernel
theorem dX7_init_30 : decode cX7_init 30 = .ok (.bipush 64, 2) := by decide +kernel
theorem dX7_init_32 : decode cX7_init 32 = .ok (.invokespecial 15, 3) := by decide +kernel
theorem dX7_init_35 : decode cX7_init 35 = .ok (.aastore, 1) := by decide +kernel
theorem dX7_init_36 : decode cX7_init 36 = .ok (.iinc 1 1, 3) := by decide +kernel
theorem dX7_init_39 : decode cX7_init 39 = .ok (.goto (-24), 3) := by decide +kernel
theorem dX7_init_42 : decode cX7_init 42 = .ok (.aload_n 0, 1) := by decide +kernel
theorem dX7_init_43 : decode cX7_init 43 = .ok (.new 9, 3) := by decide +kernel
theorem dX7_init_46 : decode cX7_init 46 = .ok (.dup, 1) := by decide +kernel
theorem dX7_init_47 : decode cX7_init 47 = .ok (.sipush 128, 3) := by decide +kernel
theorem dX7_init_50 : decode cX7_init 50 = .ok (.invokespecial 15, 3) := by decide +kernel
theorem dX7_init_53 : decode cX7_init 53 = .ok (.putfield 18, 3) := by decide +kernel
theorem dX7_init_56 : decode cX7_init 56 = .ok (.aload_n 0, 1) := by decide +kernel
theorem dX7_init_57 : decode cX7_init 57 = .ok (.new 9, 3) := by decide +kernel
theorem dX7_init_60 : decode cX7_init 60 = .ok (.dup, 1) := by decide +kernel
theorem dX7_init_61 : decode cX7_init 61 = .ok (.bipush 65, 2) := by decide +kernel
theorem dX7_init_63 : decode cX7_init 63 = .ok (.invokespecial 15, 3) := by decide +kernel
theorem dX7_init_66 : decode cX7_init 66 = .ok (.putfield 22, 3) := by decide +kernel
theorem dX7_init_69 : decode cX7_init 69 = .ok (.aload_n 0, 1) := by decide +kernel
theorem dX7_init_70 : decode cX7_init 70 = .ok (.new 25, 3) := by decide +kernel
theorem dX7_init_73 : decode cX7_init 73 = .ok (.dup, 1) := by decide +kernel
theorem dX7_init_74 : decode cX7_init 74 = .ok (.invokespecial 27, 3) := by decide +kernel
theorem dX7_init_77 : decode cX7_init 77 = .ok (.putfield 28, 3) := by decide +kernel
theorem dX7_init_80 : decode cX7_init 80 = .ok (.aload_n 0, 1) := by decide +kernel
theorem dX7_init_81 : decode cX7_init 81 = .ok (.new 32, 3) := by decide +kernel
theorem dX7_init_84 : decode cX7_init 84 = .ok (.dup, 1) := by decide +kernel
theorem dX7_init_85 : decode cX7_init 85 = .ok (.invokespecial 34, 3) := by decide +kernel
theorem dX7_init_88 : decode cX7_init 88 = .ok (.putfield 35, 3) := by decide +kernel
theorem dX7_init_91 : decode cX7_init 91 = .ok (.aload_n 0, 1) := by decide +kernel
theorem dX7_init_92 : decode cX7_init 92 = .ok (.new 32, 3) := by decide +kernel
theorem dX7_init_95 : decode cX7_init 95 = .ok (.dup, 1) := by decide +kernel
theorem dX7_init_96 : decode cX7_init 96 = .ok (.invokespecial 34, 3) := by decide +kernel
theorem dX7_init_99 : decode cX7_init 99 = .ok (.putfield 39, 3) := by decide +kernel
theorem dX7_init_102 : decode cX7_init 102 = .ok (.aload_n 0, 1) := by decide +kernel
theorem dX7_init_103 : decode cX7_init 103 = .ok (.new 42, 3) := by decide +kernel
theorem dX7_init_106 : decode cX7_init 106 = .ok (.dup, 1) := by decide +kernel
theorem dX7_init_107 : decode cX7_init 107 = .ok (.invokespecial 44, 3) := by decide +kernel
theorem dX7_init_110 : decode cX7_init 110 = .ok (.putfield 45, 3) := by decide +kernel
theorem dX7_init_113 : decode cX7_init 113 = .ok (.aload_n 0, 1) := by decide +kernel
theorem dX7_init_114 : decode cX7_init 114 = .ok (.new 49, 3) := by decide +kernel
theorem dX7_init_117 : decode cX7_init 117 = .ok (.dup, 1) := by decide +kernel
theorem dX7_init_118 : decode cX7_init 118 = .ok (.invokespecial 51, 3) := by decide +kernel
theorem dX7_init_121 : decode cX7_init 121 = .ok (.putfield 52, 3) := by decide +kernel
theorem dX7_init_124 : decode cX7_init 124 = .ok (.aload_n 0, 1) := by decide +kernel
theorem dX7_init_125 : decode cX7_init 125 = .ok (.new 56, 3) := by decide +kernel
theorem dX7_init_128 : decode cX7_init 128 = .ok (.dup, 1) := by decide +kernel
theorem dX7_init_129 : decode cX7_init 129 = .ok (.invokespecial 58, 3) := by decide +kernel
theorem dX7_init_132 : decode cX7_init 132 = .ok (.putfield 59, 3) := by decide +kernel
theorem dX7_init_135 : decode cX7_init 135 = .ok (.return_, 1) := by decide +kernel
set_option maxRecDepth 20000 in
theorem ggX7_put_X7_isBook : GoodIn wsX7_put wsX7_isBook := goodIn_r _ [6] (by decide +kernel) (by decide +kernel)
set_option maxRecDepth 20000 in
theorem gX7_put_X7_isBook : GoodIn wsX7_put (va_wsS RX7 63 yX7_isBook wsX7_isBook) := goodIn_app (goodIn_of _ (by decide +kernel)) ggX7_put_X7_isBook
set_option maxRecDepth 20000 in
theorem ggX7_put_X7_isBeginning : GoodIn wsX7_put wsX7_isBeginning := goodIn_r _ [9, 10, 11, 5, 12, 13, 14, 15, 16] (by decide +kernel) (by decide +kernel)
set_option maxRecDepth 20000 in
theorem gX7_put_X7_isBeginning : GoodIn wsX7_put (va_wsS RX7 67 yX7_isBeginning wsX7_isBeginning) := goodIn_app (goodIn_of _ (by decide +kernel)) ggX7_put_X7_isBeginning
set_option maxRecDepth 20000 in
theorem ggX7_put_X7_isGoal : GoodIn wsX7_put wsX7_isGoal := goodIn_r _ [19] (by decide +kernel) (by decide +kernel)
set_option maxRecDepth 20000 in
theorem gX7_put_X7_isGoal : GoodIn wsX7_put (va_wsS RX7 71 yX7_isGoal wsX7_isGoal) := goodIn_app (goodIn_of _ (by decide +kernel)) ggX7_put_X7_isGoal
set_option maxRecDepth 20000 in
theorem ggX7_put_X2_placeOf : GoodIn wsX7_put wsX2_placeOf := goodIn_r _ [24, 25, 26, 27, 28, 23, 29, 30, 31, 32, 5, 33, 34, 58, 59, 60, 61, 62] (by decide +kernel) (by decide +kernel)
set_option maxRecDepth 20000 in
theorem gX7_put_X2_placeOf : GoodIn wsX7_put (wsV RX7 74 RX2 yX2_placeOf wsX2_placeOf) := goodIn_app (goodIn_of _ (by decide +kernel)) ggX7_put_X2_placeOf
set_option maxRecDepth 20000 in
theorem ggX7_put_X2_isAt : GoodIn wsX7_put wsX2_isAt := goodIn_r _ [38, 25, 30, 31, 58, 59, 60, 61, 62] (by decide +kernel) (by decide +kernel)
set_option maxRecDepth 20000 in
theorem gX7_put_X2_isAt : GoodIn wsX7_put (wsV RX7 78 RX2 yX2_isAt wsX2_isAt) := goodIn_app (goodIn_of _ (by decide +kernel)) ggX7_put_X2_isAt
set_option maxRecDepth 20000 in
theorem ggX7_put_X2_insert : GoodIn wsX7_put wsX2_insert := goodIn_r _ [42, 25, 43, 30, 31, 44, 45, 46, 47, 23, 48, 58, 59, 60, 61, 62] (by decide +kernel) (by decide +kernel)
set_option maxRecDepth 20000 in
theorem gX7_put_X2_insert : GoodIn wsX7_put (wsV RX7 86 RX2 yX2_insert wsX2_insert) := goodIn_app (goodIn_of _ (by decide +kernel)) ggX7_put_X2_insert
theorem dX7_put_0 : decode cX7_put 0 = .ok (.iload_n 1, 1) := by decide +kernel
theorem dX7_put_1 : decode cX7_put 1 = .ok (.invokestatic 63, 3) := by decide +kernel
theorem dX7_put_4 : decode cX7_put 4 = .ok (.ifCond .eq 19, 3) := by decide +kernel
theorem dX7_put_7 : decode cX7_put 7 = .ok (.iload_n 2, 1) := by decide +kernel
theorem dX7_put_8 : decode cX7_put 8 = .ok (.iload_n 3, 1) := by decide +kernel
theorem dX7_put_9 : decode cX7_put 9 = .ok (.invokestatic 67, 3) := by decide +kernel
theorem dX7_put_12 : decode cX7_put 12 = .ok (.ifCond .eq 11, 3) := by decide +kernel
theorem dX7_put_15 : decode cX7_put 15 = .ok (.iload 4, 2) := by decide +kernel
theorem dX7_put_17 : decode cX7_put 17 = .ok (.invokestatic 71, 3) := by decide +kernel
theorem dX7_put_20 : decode cX7_put 20 = .ok (.ifCond .ne 5, 3) := by decide +kernel
theorem dX7_put_23 : decode cX7_put 23 = .ok (.iconst (-1), 1) := by decide +kernel
theorem dX7_put_24 : decode cX7_put 24 = .ok (.ireturn, 1) := by decide +kernel
theorem dX7_put_25 : decode cX7_put 25 = .ok (.aload_n 0, 1) := by decide +kernel
theorem dX7_put_26 : decode cX7_put 26 = .ok (.getfield 11, 3) := by decide +kernel
theorem dX7_put_29 : decode cX7_put 29 = .ok (.iload_n 1, 1) := by decide +kernel
theorem dX7_put_30 : decode cX7_put 30 = .ok (.aaload, 1) := by decide +kernel
theorem dX7_put_31 : decode cX7_put 31 = .ok (.astore 5, 2) := by decide +kernel
theorem dX7_put_33 : decode cX7_put 33 = .ok (.aload 5, 2) := by decide +kernel
theorem dX7_put_35 : decode cX7_put 35 = .ok (.iload_n 2, 1) := by decide +kernel
theorem dX7_put_36 : decode cX7_put 36 = .ok (.iload_n 3, 1) := by decide +kernel
theorem dX7_put_37 : decode cX7_put 37 = .ok (.invokevirtual 74, 3) := by decide +kernel
theorem dX7_put_40 : decode cX7_put 40 = .ok (.istore 6, 2) := by decide +kernel
theorem dX7_put_42 : decode cX7_put 42 = .ok (.aload 5, 2) := by decide +kernel
theorem dX7_put_44 : decode cX7_put 44 = .ok (.iload 6, 2) := by decide +kernel
theorem dX7_put_46 : decode cX7_put 46 = .ok (.iload_n 2, 1) := by decide +kernel
theorem dX7_put_47 : decode cX7_put 47 = .ok (.iload_n 3, 1) := by decide +kernel
theorem dX7_put_48 : decode cX7_put 48 = .ok (.invokevirtual 78, 3) := by decide +kernel
theorem dX7_put_51 : decode cX7_put 51 = .ok (.ifCond .eq 15, 3) := by decide +kernel
theorem dX7_put_54 : decode cX7_put 54 = .ok (.aload 5, 2) := by decide +kernel
theorem dX7_put_56 : decode cX7_put 56 = .ok (.getfield 82, 3) := by decide +kernel
theorem dX7_put_59 : decode cX7_put 59 = .ok (.iload 6, 2) := by decide +kernel
theorem dX7_put_61 : decode cX7_put 61 = .ok (.iload 4, 2) := by decide +kernel
theorem dX7_put_63 : decode cX7_put 63 = .ok (.iastore, 1) := by decide +kernel
theorem dX7_put_64 : decode cX7_put 64 = .ok (.iconst 1, 1) := by decide +kernel
theorem dX7_put_65 : decode cX7_put 65 = .ok (.ireturn, 1) := by decide +kernel
theorem dX7_put_66 : decode cX7_put 66 = .ok (.aload 5, 2) := by decide +kernel
theorem dX7_put_68 : decode cX7_put 68 = .ok (.iload 6, 2) := by decide +kernel
theorem dX7_put_70 : decode cX7_put 70 = .ok (.iload_n 2, 1) := by decide +kernel
theorem dX7_put_71 : decode cX7_put 71 = .ok (.iload_n 3, 1) := by decide +kernel
theorem dX7_put_72 : decode cX7_put 72 = .ok (.iload 4, 2) := by decide +kernel
theorem dX7_put_74 : decode cX7_put 74 = .ok (.invokevirtual 86, 3) := by decide +kernel
theorem dX7_put_77 : decode cX7_put 77 = .ok (.ifCond .eq 7, 3) := by decide +kernel
theorem dX7_put_80 : decode cX7_put 80 = .ok (.iconst 0, 1) := by decide +kernel
theorem dX7_put_81 : decode cX7_put 81 = .ok (.goto 4, 3) := by decide +kernel
theorem dX7_put_84 : decode cX7_put 84 = .ok (.iconst (-1), 1) := by decide +kernel
theorem dX7_put_85 : decode cX7_put 85 = .ok (.ireturn, 1) := by decide +kernel
set_option maxRecDepth 20000 in
theorem ggX7_drop_X7_isBook : GoodIn wsX7_drop wsX7_isBook := goodIn_r _ [5] (by decide +kernel) (by decide +kernel)
set_option maxRecDepth 20000 in
theorem gX7_drop_X7_isBook : GoodIn wsX7_drop (va_wsS RX7 63 yX7_isBook wsX7_isBook) := goodIn_app (goodIn_of _ (by decide +kernel)) ggX7_drop_X7_isBook
set_option maxRecDepth 20000 in
theorem ggX7_drop_X2_placeOf : GoodIn wsX7_drop wsX2_placeOf := goodIn_r _ [10, 11, 12, 13, 14, 9, 15, 16, 17, 18, 4, 19, 20, 43, 44, 45, 46, 47] (by decide +kernel) (by decide +kernel)
set_option maxRecDepth 20000 in
theorem gX7_drop_X2_placeOf : GoodIn wsX7_drop (wsV RX7 74 RX2 yX2_placeOf wsX2_placeOf) := goodIn_app (goodIn_of _ (by decide +kernel)) ggX7_drop_X2_placeOf
set_option maxRecDepth 20000 in
theorem ggX7_drop_X2_isAt : GoodIn wsX7_drop wsX2_isAt := goodIn_r _ [24, 11, 16, 17, 43, 44, 45, 46, 47] (by decide +kernel) (by decide +kernel)
set_option maxRecDepth 20000 in
theorem gX7_drop_X2_isAt : GoodIn wsX7_drop (wsV RX7 78 RX2 yX2_isAt wsX2_isAt) := goodIn_app (goodIn_of _ (by decide +kernel)) ggX7_drop_X2_isAt
set_option maxRecDepth 20000 in
theorem ggX7_drop_X2_removeAt : GoodIn wsX7_drop wsX2_removeAt := goodIn_r _ [28, 11, 16, 17, 29, 30, 31, 32, 9, 33, 43, 44, 45, 46, 47] (by decide +kernel) (by decide +kernel)
set_option maxRecDepth 20000 in
theorem gX7_drop_X2_removeAt : GoodIn wsX7_drop (wsV RX7 90 RX2 yX2_removeAt wsX2_removeAt) := goodIn_app (goodIn_of _ (by decide +kernel)) ggX7_drop_X2_removeAt
theorem dX7_drop_0 : decode cX7_drop 0 = .ok (.iload_n 1, 1) := by decide +kernel
theorem dX7_drop_1 : decode cX7_drop 1 = .ok (.invokestatic 63, 3) := by decide +kernel
theorem dX7_drop_4 : decode cX7_drop 4 = .ok (.ifCond .ne 5, 3) := by decide +kernel
theorem dX7_drop_7 : decode cX7_drop 7 = .ok (.iconst 0, 1) := by decide +kernel
theorem dX7_drop_8 : decode cX7_drop 8 = .ok (.ireturn, 1) := by decide +kernel
theorem dX7_drop_9 : decode cX7_drop 9 = .ok (.aload_n 0, 1) := by decide +kernel
theorem dX7_drop_10 : decode cX7_drop 10 = .ok (.getfield 11, 3) := by decide +kernel
theorem dX7_drop_13 : decode cX7_drop 13 = .ok (.iload_n 1, 1) := by decide +kernel
theorem dX7_drop_14 : decode cX7_drop 14 = .ok (.aaload, 1) := by decide +kernel
theorem dX7_drop_15 : decode cX7_drop 15 = .ok (.astore 4, 2) := by decide +kernel
theorem dX7_drop_17 : decode cX7_drop 17 = .ok (.aload 4, 2) := by decide +kernel
theorem dX7_drop_19 : decode cX7_drop 19 = .ok (.iload_n 2, 1) := by decide +kernel
theorem dX7_drop_20 : decode cX7_drop 20 = .ok (.iload_n 3, 1) := by decide +kernel
theorem dX7_drop_21 : decode cX7_drop 21 = .ok (.invokevirtual 74, 3) := by decide +kernel
theorem dX7_drop_24 : decode cX7_drop 24 = .ok (.istore 5, 2) := by decide +kernel
theorem dX7_drop_26 : decode cX7_drop 26 = .ok (.aload 4, 2) := by decide +kernel
theorem dX7_drop_28 : decode cX7_drop 28 = .ok (.iload 5, 2) := by decide +kernel
theorem dX7_drop_30 : decode cX7_drop 30 = .ok (.iload_n 2, 1) := by decide +kernel
theorem dX7_drop_31 : decode cX7_drop 31 = .ok (.iload_n 3, 1) := by decide +kernel
theorem dX7_drop_32 : decode cX7_drop 32 = .ok (.invokevirtual 78, 3) := by decide +kernel
theorem dX7_drop_35 : decode cX7_drop 35 = .ok (.ifCond .ne 5, 3) := by decide +kernel
theorem dX7_drop_38 : decode cX7_drop 38 = .ok (.iconst 0, 1) := by decide +kernel
theorem dX7_drop_39 : decode cX7_drop 39 = .ok (.ireturn, 1) := by decide +kernel
theorem dX7_drop_40 : decode cX7_drop 40 = .ok (.aload 4, 2) := by decide +kernel
theorem dX7_drop_42 : decode cX7_drop 42 = .ok (.iload 5, 2) := by decide +kernel
theorem dX7_drop_44 : decode cX7_drop 44 = .ok (.invokevirtual 90, 3) := by decide +kernel
theorem dX7_drop_47 : decode cX7_drop 47 = .ok (.iconst 1, 1) := by decide +kernel
theorem dX7_drop_48 : decode cX7_drop 48 = .ok (.ireturn, 1) := by decide +kernel
set_option maxRecDepth 20000 in
theorem ggX7_copy_X7_isBook : GoodIn wsX7_copy wsX7_isBook := goodIn_r _ [6] (by decide +kernel) (by decide +kernel)
set_option maxRecDepth 20000 in
theorem gX7_copy_X7_isBook : GoodIn wsX7_copy (va_wsS RX7 63 yX7_isBook wsX7_isBook) := goodIn_app (goodIn_of _ (by decide +kernel)) ggX7_copy_X7_isBook
set_option maxRecDepth 20000 in
theorem ggX7_copy_X2_become : GoodIn wsX7_copy wsX2_become := goodIn_r _ [11, 12, 13, 14, 15, 16, 17, 18, 19, 20, 21, 22, 23, 10, 24, 34, 35, 36, 37, 38] (by decide +kernel) (by decide +kernel)
set_option maxRecDepth 20000 in
theorem gX7_copy_X2_become : GoodIn wsX7_copy (wsV RX7 93 RX2 yX2_become wsX2_become) := goodIn_app (goodIn_of _ (by decide +kernel)) ggX7_copy_X2_become
theorem dX7_copy_0 : decode cX7_copy 0 = .ok (.iload_n 1, 1) := by decide +kernel
theorem dX7_copy_1 : decode cX7_copy 1 = .ok (.invokestatic 63, 3) := by decide +kernel
theorem dX7_copy_4 : decode cX7_copy 4 = .ok (.ifCond .eq 10, 3) := by decide +kernel
theorem dX7_copy_7 : decode cX7_copy 7 = .ok (.iload_n 2, 1) := by decide +kernel
theorem dX7_copy_8 : decode cX7_copy 8 = .ok (.invokestatic 63, 3) := by decide +kernel
theorem dX7_copy_11 : decode cX7_copy 11 = .ok (.ifCond .ne 5, 3) := by decide +kernel
theorem dX7_copy_14 : decode cX7_copy 14 = .ok (.iconst (-1), 1) := by decide +kernel
theorem dX7_copy_15 : decode cX7_copy 15 = .ok (.ireturn, 1) := by decide +kernel
theorem dX7_copy_16 : decode cX7_copy 16 = .ok (.aload_n 0, 1) := by decide +kernel
theorem dX7_copy_17 : decode cX7_copy 17 = .ok (.getfield 11, 3) := by decide +kernel
theorem dX7_copy_20 : decode cX7_copy 20 = .ok (.iload_n 2, 1) := by decide +kernel
theorem dX7_copy_21 : decode cX7_copy 21 = .ok (.aaload, 1) := by decide +kernel
theorem dX7_copy_22 : decode cX7_copy 22 = .ok (.aload_n 0, 1) := by decide +kernel
theorem dX7_copy_23 : decode cX7_copy 23 = .ok (.getfield 11, 3) := by decide +kernel
theorem dX7_copy_26 : decode cX7_copy 26 = .ok (.iload_n 1, 1) := by decide +kernel
theorem dX7_copy_27 : decode cX7_copy 27 = .ok (.aaload, 1) := by decide +kernel
theorem dX7_copy_28 : decode cX7_copy 28 = .ok (.invokevirtual 93, 3) := by decide +kernel
theorem dX7_copy_31 : decode cX7_copy 31 = .ok (.aload_n 0, 1) := by decide +kernel
theorem dX7_copy_32 : decode cX7_copy 32 = .ok (.getfield 11, 3) := by decide +kernel
theorem dX7_copy_35 : decode cX7_copy 35 = .ok (.iload_n 2, 1) := by decide +kernel
theorem dX7_copy_36 : decode cX7_copy 36 = .ok (.aaload, 1) := by decide +kernel
theorem dX7_copy_37 : decode cX7_copy 37 = .ok (.getfield 97, 3) := by decide +kernel
theorem dX7_copy_40 : decode cX7_copy 40 = .ok (.ireturn, 1) := by decide +kernel
set_option maxRecDepth 20000 in
theorem ggX7_count_X7_isBook : GoodIn wsX7_count wsX7_isBook := goodIn_r _ [6] (by decide +kernel) (by decide +kernel)
set_option maxRecDepth 20000 in
theorem gX7_count_X7_isBook : GoodIn wsX7_count (va_wsS RX7 63 yX7_isBook wsX7_isBook) := goodIn_app (goodIn_of _ (by decide +kernel)) ggX7_count_X7_isBook
theorem dX7_count_0 : decode cX7_count 0 = .ok (.iload_n 1, 1) := by decide +kernel
theorem dX7_count_1 : decode cX7_count 1 = .ok (.invokestatic 63, 3) := by decide +kernel
theorem dX7_count_4 : decode cX7_count 4 = .ok (.ifCond .eq 15, 3) := by decide +kernel
theorem dX7_count_7 : decode cX7_count 7 = .ok (.aload_n 0, 1) := by decide +kernel
theorem dX7_count_8 : decode cX7_count 8 = .ok (.getfield 11, 3) := by decide +kernel
theorem dX7_count_11 : decode cX7_count 11 = .ok (.iload_n 1, 1) := by decide +kernel
theorem dX7_count_12 : decode cX7_count 12 = .ok (.aaload, 1) := by decide +kernel
theorem dX7_count_13 : decode cX7_count 13 = .ok (.getfield 97, 3) := by decide +kernel
theorem dX7_count_16 : decode cX7_count 16 = .ok (.goto 4, 3) := by decide +kernel
theorem dX7_count_19 : decode cX7_count 19 = .ok (.iconst (-1), 1) := by decide +kernel
theorem dX7_count_20 : decode cX7_count 20 = .ok (.ireturn, 1) := by decide +kernel
set_option maxRecDepth 20000 in
theorem ggX7_line_X7_isBook : GoodIn wsX7_line wsX7_isBook := goodIn_r _ [9] (by decide +kernel) (by decide +kernel)
set_option maxRecDepth 20000 in
theorem gX7_line_X7_isBook : GoodIn wsX7_line (va_wsS RX7 63 yX7_isBook wsX7_isBook) := goodIn_app (goodIn_of _ (by decide +kernel)) ggX7_line_X7_isBook
set_option maxRecDepth 20000 in
theorem ggX7_line_X2_first : GoodIn wsX7_line wsX2_first := goodIn_r _ [14, 15, 16, 8, 17, 18, 28, 29, 30, 31, 32] (by decide +kernel) (by decide +kernel)
set_option maxRecDepth 20000 in
theorem gX7_line_X2_first : GoodIn wsX7_line (wsV RX7 103 RX2 yX2_first wsX2_first) := goodIn_app (goodIn_of _ (by decide +kernel)) ggX7_line_X2_first
theorem dX7_line_0 : decode cX7_line 0 = .ok (.iload_n 1, 1) := by decide +kernel
theorem dX7_line_1 : decode cX7_line 1 = .ok (.invokestatic 63, 3) := by decide +kernel
theorem dX7_line_4 : decode cX7_line 4 = .ok (.ifCond .eq 20, 3) := by decide +kernel
theorem dX7_line_7 : decode cX7_line 7 = .ok (.iload_n 2, 1) := by decide +kernel
theorem dX7_line_8 : decode cX7_line 8 = .ok (.ifCond .lt 16, 3) := by decide +kernel
theorem dX7_line_11 : decode cX7_line 11 = .ok (.iload_n 2, 1) := by decide +kernel
theorem dX7_line_12 : decode cX7_line 12 = .ok (.aload_n 0, 1) := by decide +kernel
theorem dX7_line_13 : decode cX7_line 13 = .ok (.getfield 11, 3) := by decide +kernel
theorem dX7_line_16 : decode cX7_line 16 = .ok (.iload_n 1, 1) := by decide +kernel
theorem dX7_line_17 : decode cX7_line 17 = .ok (.aaload, 1) := by decide +kernel
theorem dX7_line_18 : decode cX7_line 18 = .ok (.getfield 97, 3) := by decide +kernel
theorem dX7_line_21 : decode cX7_line 21 = .ok (.if_icmp .lt 7, 3) := by decide +kernel
theorem dX7_line_24 : decode cX7_line 24 = .ok (.ldc2_w 101, 3) := by decide +kernel
theorem dX7_line_27 : decode cX7_line 27 = .ok (.lreturn, 1) := by decide +kernel
theorem dX7_line_28 : decode cX7_line 28 = .ok (.iload_n 3, 1) := by decide +kernel
theorem dX7_line_29 : decode cX7_line 29 = .ok (.tableswitch 64 0 2 #[27, 38, 51], 27) := by decide +kernel
theorem dX7_line_56 : decode cX7_line 56 = .ok (.aload_n 0, 1) := by decide +kernel
theorem dX7_line_57 : decode cX7_line 57 = .ok (.getfield 11, 3) := by decide +kernel
theorem dX7_line_60 : decode cX7_line 60 = .ok (.iload_n 1, 1) := by decide +kernel
theorem dX7_line_61 : decode cX7_line 61 = .ok (.aaload, 1) := by decide +kernel
theorem dX7_line_62 : decode cX7_line 62 = .ok (.iload_n 2, 1) := by decide +kernel
theorem dX7_line_63 : decode cX7_line 63 = .ok (.invokevirtual 103, 3) := by decide +kernel
theorem dX7_line_66 : decode cX7_line 66 = .ok (.lreturn, 1) := by decide +kernel
theorem dX7_line_67 : decode cX7_line 67 = .ok (.aload_n 0, 1) := by decide +kernel
theorem dX7_line_68 : decode cX7_line 68 = .ok (.getfield 11, 3) := by decide +kernel
theorem dX7_line_71 : decode cX7_line 71 = .ok (.iload_n 1, 1) := by decide +kernel
theorem dX7_line_72 : decode cX7_line 72 = .ok (.aaload, 1) := by decide +kernel
theorem dX7_line_73 : decode cX7_line 73 = .ok (.getfield 107, 3) := by decide +kernel
theorem dX7_line_76 : decode cX7_line 76 = .ok (.iload_n 2, 1) := by decide +kernel
theorem dX7_line_77 : decode cX7_line 77 = .ok (.iaload, 1) := by decide +kernel
theorem dX7_line_78 : decode cX7_line 78 = .ok (.i2l, 1) := by decide +kernel
theorem dX7_line_79 : decode cX7_line 79 = .ok (.lreturn, 1) := by decide +kernel
theorem dX7_line_80 : decode cX7_line 80 = .ok (.aload_n 0, 1) := by decide +kernel
theorem dX7_line_81 : decode cX7_line 81 = .ok (.getfield 11, 3) := by decide +kernel
theorem dX7_line_84 : decode cX7_line 84 = .ok (.iload_n 1, 1) := by decide +kernel
theorem dX7_line_85 : decode cX7_line 85 = .ok (.aaload, 1) := by decide +kernel
theorem dX7_line_86 : decode cX7_line 86 = .ok (.getfield 82, 3) := by decide +kernel
theorem dX7_line_89 : decode cX7_line 89 = .ok (.iload_n 2, 1) := by decide +kernel
theorem dX7_line_90 : decode cX7_line 90 = .ok (.iaload, 1) := by decide +kernel
theorem dX7_line_91 : decode cX7_line 91 = .ok (.i2l, 1) := by decide +kernel
theorem dX7_line_92 : decode cX7_line 92 = .ok (.lreturn, 1) := by decide +kernel
theorem dX7_line_93 : decode cX7_line 93 = .ok (.ldc2_w 101, 3) := by decide +kernel
theorem dX7_line_96 : decode cX7_line 96 = .ok (.lreturn, 1) := by decide +kernel
set_option maxRecDepth 20000 in
theorem ggX7_find_X7_isBook : GoodIn wsX7_find wsX7_isBook := goodIn_r _ [6] (by decide +kernel) (by decide +kernel)
set_option maxRecDepth 20000 in
theorem gX7_find_X7_isBook : GoodIn wsX7_find (va_wsS RX7 63 yX7_isBook wsX7_isBook) := goodIn_app (goodIn_of _ (by decide +kernel)) ggX7_find_X7_isBook
set_option maxRecDepth 20000 in
theorem ggX7_find_X2_goalAmong : GoodIn wsX7_find wsX2_goalAmong := goodIn_r _ [11, 12, 13, 14, 15, 10, 16, 17, 18, 19, 20, 21, 22, 23, 24, 5, 25, 26, 27, 28, 29, 39, 40, 41, 42, 43] (by decide +kernel) (by decide +kernel)
set_option maxRecDepth 20000 in
theorem gX7_find_X2_goalAmong : GoodIn wsX7_find (wsV RX7 110 RX2 yX2_goalAmong wsX2_goalAmong) := goodIn_app (goodIn_of _ (by decide +kernel)) ggX7_find_X2_goalAmong
theorem dX7_find_0 : decode cX7_find 0 = .ok (.iload_n 1, 1) := by decide +kernel
theorem dX7_find_1 : decode cX7_find 1 = .ok (.invokestatic 63, 3) := by decide +kernel
theorem dX7_find_4 : decode cX7_find 4 = .ok (.ifCond .eq 25, 3) := by decide +kernel
theorem dX7_find_7 : decode cX7_find 7 = .ok (.aload_n 0, 1) := by decide +kernel
theorem dX7_find_8 : decode cX7_find 8 = .ok (.getfield 11, 3) := by decide +kernel
theorem dX7_find_11 : decode cX7_find 11 = .ok (.iload_n 1, 1) := by decide +kernel
theorem dX7_find_12 : decode cX7_find 12 = .ok (.aaload, 1) := by decide +kernel
theorem dX7_find_13 : decode cX7_find 13 = .ok (.aload_n 0, 1) := by decide +kernel
theorem dX7_find_14 : decode cX7_find 14 = .ok (.getfield 11, 3) := by decide +kernel
theorem dX7_find_17 : decode cX7_find 17 = .ok (.iload_n 1, 1) := by decide +kernel
theorem dX7_find_18 : decode cX7_find 18 = .ok (.aaload, 1) := by decide +kernel
theorem dX7_find_19 : decode cX7_find 19 = .ok (.getfield 97, 3) := by decide +kernel
theorem dX7_find_22 : decode cX7_find 22 = .ok (.iload_n 2, 1) := by decide +kernel
theorem dX7_find_23 : decode cX7_find 23 = .ok (.invokevirtual 110, 3) := by decide +kernel
theorem dX7_find_26 : decode cX7_find 26 = .ok (.goto 4, 3) := by decide +kernel
theorem dX7_find_29 : decode cX7_find 29 = .ok (.iconst (-1), 1) := by decide +kernel
theorem dX7_find_30 : decode cX7_find 30 = .ok (.ireturn, 1) := by decide +kernel
set_option maxRecDepth 20000 in
theorem ggX7_longest_X7_isBook : GoodIn wsX7_longest wsX7_isBook := goodIn_r _ [6] (by decide +kernel) (by decide +kernel)
set_option maxRecDepth 20000 in
theorem gX7_longest_X7_isBook : GoodIn wsX7_longest (va_wsS RX7 63 yX7_isBook wsX7_isBook) := goodIn_app (goodIn_of _ (by decide +kernel)) ggX7_longest_X7_isBook
set_option maxRecDepth 20000 in
theorem ggX7_longest_X2_lastHolder : GoodIn wsX7_longest wsX2_lastHolder := goodIn_r _ [11, 12, 13, 14, 15, 16, 17, 18, 19, 5, 20, 21, 22, 23, 24, 34, 35, 36, 37, 38] (by decide +kernel) (by decide +kernel)
set_option maxRecDepth 20000 in
theorem gX7_longest_X2_lastHolder : GoodIn wsX7_longest (wsV RX7 113 RX2 yX2_lastHolder wsX2_lastHolder) := goodIn_app (goodIn_of _ (by decide +kernel)) ggX7_longest_X2_lastHolder
theorem dX7_longest_0 : decode cX7_longest 0 = .ok (.iload_n 1, 1) := by decide +kernel
theorem dX7_longest_1 : decode cX7_longest 1 = .ok (.invokestatic 63, 3) := by decide +kernel
theorem dX7_longest_4 : decode cX7_longest 4 = .ok (.ifCond .eq 25, 3) := by decide +kernel
theorem dX7_longest_7 : decode cX7_longest 7 = .ok (.aload_n 0, 1) := by decide +kernel
theorem dX7_longest_8 : decode cX7_longest 8 = .ok (.getfield 11, 3) := by decide +kernel
theorem dX7_longest_11 : decode cX7_longest 11 = .ok (.iload_n 1, 1) := by decide +kernel
theorem dX7_longest_12 : decode cX7_longest 12 = .ok (.aaload, 1) := by decide +kernel
theorem dX7_longest_13 : decode cX7_longest 13 = .ok (.aload_n 0, 1) := by decide +kernel
theorem dX7_longest_14 : decode cX7_longest 14 = .ok (.getfield 11, 3) := by decide +kernel
theorem dX7_longest_17 : decode cX7_longest 17 = .ok (.iload_n 1, 1) := by decide +kernel
theorem dX7_longest_18 : decode cX7_longest 18 = .ok (.aaload, 1) := by decide +kernel
theorem dX7_longest_19 : decode cX7_longest 19 = .ok (.getfield 97, 3) := by decide +kernel
theorem dX7_longest_22 : decode cX7_longest 22 = .ok (.iload_n 2, 1) := by decide +kernel
theorem dX7_longest_23 : decode cX7_longest 23 = .ok (.invokevirtual 113, 3) := by decide +kernel
theorem dX7_longest_26 : decode cX7_longest 26 = .ok (.goto 4, 3) := by decide +kernel
theorem dX7_longest_29 : decode cX7_longest 29 = .ok (.iconst (-1), 1) := by decide +kernel
theorem dX7_longest_30 : decode cX7_longest 30 = .ok (.ireturn, 1) := by decide +kernel
set_option maxRecDepth 20000 in
theorem ggX7_least_X7_isBook : GoodIn wsX7_least wsX7_isBook := goodIn_r _ [5] (by decide +kernel) (by decide +kernel)
set_option maxRecDepth 20000 in
theorem gX7_least_X7_isBook : GoodIn wsX7_least (va_wsS RX7 63 yX7_isBook wsX7_isBook) := goodIn_app (goodIn_of _ (by decide +kernel)) ggX7_least_X7_isBook
set_option maxRecDepth 20000 in
theorem ggX7_least_X7_becomeLeast : GoodIn wsX7_least wsX7_becomeLeast := goodIn_r _ [9, 10, 11, 12, 13, 14, 15, 16, 17, 18, 19, 20, 21, 22, 23, 24, 25, 26, 27, 28, 29, 30, 31, 32, 33, 34, 35, 36, 37, 38, 39, 40, 41, 42, 43, 4, 44, 45, 46, 47, 48, 49, 50, 51, 52, 53, 54, 55, 56, 57, 58, 59, 60, 61, 62, 63, 64, 65, 66, 67, 68, 69, 70, 71, 72, 73, 74, 75, 76, 77, 78, 79, 80, 81, 82, 83, 84, 85, 86, 87, 88, 89, 90, 91, 92, 93, 94, 95, 96, 97, 98, 99, 100, 101, 102, 103, 104, 105, 106, 107, 108, 109, 110, 111, 112, 113, 114, 115, 116, 117, 118, 119, 120, 121, 122, 123, 124, 125, 126, 127, 128, 129, 130, 131, 132, 133, 134] (by decide +kernel) (by decide +kernel)
set_option maxRecDepth 20000 in
theorem gX7_least_X7_becomeLeast : GoodIn wsX7_least (wsV RX7 116 RX7 yX7_becomeLeast wsX7_becomeLeast) := goodIn_app (goodIn_of _ (by decide +kernel)) ggX7_least_X7_becomeLeast
theorem dX7_least_0 : decode cX7_least 0 = .ok (.iload_n 1, 1) := by decide +kernel
theorem dX7_least_1 : decode cX7_least 1 = .ok (.invokestatic 63, 3) := by decide +kernel
theorem dX7_least_4 : decode cX7_least 4 = .ok (.ifCond .eq 10, 3) := by decide +kernel
theorem dX7_least_7 : decode cX7_least 7 = .ok (.iload_n 2, 1) := by decide +kernel
theorem dX7_least_8 : decode cX7_least 8 = .ok (.invokestatic 63, 3) := by decide +kernel
theorem dX7_least_11 : decode cX7_least 11 = .ok (.ifCond .ne 5, 3) := by decide +kernel
theorem dX7_least_14 : decode cX7_least 14 = .ok (.iconst (-1), 1) := by decide +kernel
theorem dX7_least_15 : decode cX7_least 15 = .ok (.ireturn, 1) := by decide +kernel
theorem dX7_least_16 : decode cX7_least 16 = .ok (.aload_n 0, 1) := by decide +kernel
theorem dX7_least_17 : decode cX7_least 17 = .ok (.aload_n 0, 1) := by decide +kernel
theorem dX7_least_18 : decode cX7_least 18 = .ok (.getfield 11, 3) := by decide +kernel
theorem dX7_least_21 : decode cX7_least 21 = .ok (.iload_n 1, 1) := by decide +kernel
theorem dX7_least_22 : decode cX7_least 22 = .ok (.aaload, 1) := by decide +kernel
theorem dX7_least_23 : decode cX7_least 23 = .ok (.aload_n 0, 1) := by decide +kernel
theorem dX7_least_24 : decode cX7_least 24 = .ok (.getfield 11, 3) := by decide +kernel
theorem dX7_least_27 : decode cX7_least 27 = .ok (.iload_n 2, 1) := by decide +kernel
theorem dX7_least_28 : decode cX7_least 28 = .ok (.aaload, 1) := by decide +kernel
theorem dX7_least_29 : decode cX7_least 29 = .ok (.invokevirtual 116, 3) := by decide +kernel
theorem dX7_least_32 : decode cX7_least 32 = .ok (.ireturn, 1) := by decide +kernel
set_option maxRecDepth 20000 in
theorem ggX7_set_X7_isBook : GoodIn wsX7_set wsX7_isBook := goodIn_r _ [6] (by decide +kernel) (by decide +kernel)
set_option maxRecDepth 20000 in
theorem gX7_set_X7_isBook : GoodIn wsX7_set (va_wsS RX7 63 yX7_isBook wsX7_isBook) := goodIn_app (goodIn_of _ (by decide +kernel)) ggX7_set_X7_isBook
set_option maxRecDepth 20000 in
theorem ggX7_set_X7_isBeginning : GoodIn wsX7_set wsX7_isBeginning := goodIn_r _ [9, 10, 11, 5, 12, 13, 14, 15, 16] (by decide +kernel) (by decide +kernel)
set_option maxRecDepth 20000 in
theorem gX7_set_X7_isBeginning : GoodIn wsX7_set (va_wsS RX7 67 yX7_isBeginning wsX7_isBeginning) := goodIn_app (goodIn_of _ (by decide +kernel)) ggX7_set_X7_isBeginning
set_option maxRecDepth 20000 in
theorem ggX7_set_X2_placeOf : GoodIn wsX7_set wsX2_placeOf := goodIn_r _ [21, 22, 23, 24, 25, 20, 26, 27, 28, 29, 5, 30, 31, 114, 115, 116, 117, 118] (by decide +kernel) (by decide +kernel)
set_option maxRecDepth 20000 in
theorem gX7_set_X2_placeOf : GoodIn wsX7_set (wsV RX7 74 RX2 yX2_placeOf wsX2_placeOf) := goodIn_app (goodIn_of _ (by decide +kernel)) ggX7_set_X2_placeOf
set_option maxRecDepth 20000 in
theorem ggX7_set_X2_endOf : GoodIn wsX7_set wsX2_endOf := goodIn_r _ [35, 36, 37, 15, 38, 22, 27, 39, 5, 40, 10, 11, 12, 13, 14, 16, 114, 115, 116, 117, 118] (by decide +kernel) (by decide +kernel)
set_option maxRecDepth 20000 in
theorem gX7_set_X2_endOf : GoodIn wsX7_set (wsV RX7 120 RX2 yX2_endOf wsX2_endOf) := goodIn_app (goodIn_of _ (by decide +kernel)) ggX7_set_X2_endOf
set_option maxRecDepth 20000 in
theorem ggX7_set_X2_goalAmong : GoodIn wsX7_set wsX2_goalAmong := goodIn_r _ [44, 45, 46, 47, 48, 20, 49, 22, 50, 14, 15, 16, 27, 28, 39, 5, 40, 10, 11, 12, 13, 114, 115, 116, 117, 118] (by decide +kernel) (by decide +kernel)
set_option maxRecDepth 20000 in
theorem gX7_set_X2_goalAmong : GoodIn wsX7_set (wsV RX7 110 RX2 yX2_goalAmong wsX2_goalAmong) := goodIn_app (goodIn_of _ (by decide +kernel)) ggX7_set_X2_goalAmong
set_option maxRecDepth 20000 in
theorem ggX7_set_X5_plant : GoodIn wsX7_set wsX5_plant := goodIn_r _ [55, 56, 57, 58, 59, 54, 60, 61, 62, 63, 64, 65, 66, 67, 68, 69, 70, 20, 71, 22, 27, 28, 72, 73, 74, 75, 76, 5, 77, 78, 79, 80, 81, 82, 83, 84, 85, 86, 87, 88, 89, 90, 91, 92, 93, 94, 95, 50, 14, 15, 16, 96, 97, 98, 99, 100, 11, 12, 13, 119, 120, 121, 122, 123, 124, 125, 114, 115, 116, 117, 118] (by decide +kernel) (by decide +kernel)
set_option maxRecDepth 20000 in
theorem gX7_set_X5_plant : GoodIn wsX7_set (wsV RX7 124 RX5 yX5_plant wsX5_plant) := goodIn_app (goodIn_of _ (by decide +kernel)) ggX7_set_X5_plant
set_option maxRecDepth 20000 in
theorem ggX7_set_X5_setOfTop : GoodIn wsX7_set wsX5_setOfTop := goodIn_r _ [104, 56, 67, 119, 120, 121, 122, 123, 124, 125] (by decide +kernel) (by decide +kernel)
set_option maxRecDepth 20000 in
theorem gX7_set_X5_setOfTop : GoodIn wsX7_set (wsV RX7 128 RX5 yX5_setOfTop wsX5_setOfTop) := goodIn_app (goodIn_of _ (by decide +kernel)) ggX7_set_X5_setOfTop
theorem dX7_set_0 : decode cX7_set 0 = .ok (.iload_n 1, 1) := by decide +kernel
theorem dX7_set_1 : decode cX7_set 1 = .ok (.invokestatic 63, 3) := by decide +kernel
theorem dX7_set_4 : decode cX7_set 4 = .ok (.ifCond .eq 11, 3) := by decide +kernel
theorem dX7_set_7 : decode cX7_set 7 = .ok (.iload_n 2, 1) := by decide +kernel
theorem dX7_set_8 : decode cX7_set 8 = .ok (.iload_n 3, 1) := by decide +kernel
theorem dX7_set_9 : decode cX7_set 9 = .ok (.invokestatic 67, 3) := by decide +kernel
theorem dX7_set_12 : decode cX7_set 12 = .ok (.ifCond .ne 5, 3) := by decide +kernel
theorem dX7_set_15 : decode cX7_set 15 = .ok (.iconst (-1), 1) := by decide +kernel
theorem dX7_set_16 : decode cX7_set 16 = .ok (.ireturn, 1) := by decide +kernel
theorem dX7_set_17 : decode cX7_set 17 = .ok (.aload_n 0, 1) := by decide +kernel
theorem dX7_set_18 : decode cX7_set 18 = .ok (.getfield 11, 3) := by decide +kernel
theorem dX7_set_21 : decode cX7_set 21 = .ok (.iload_n 1, 1) := by decide +kernel
theorem dX7_set_22 : decode cX7_set 22 = .ok (.aaload, 1) := by decide +kernel
theorem dX7_set_23 : decode cX7_set 23 = .ok (.astore 4, 2) := by decide +kernel
theorem dX7_set_25 : decode cX7_set 25 = .ok (.aload 4, 2) := by decide +kernel
theorem dX7_set_27 : decode cX7_set 27 = .ok (.iload_n 2, 1) := by decide +kernel
theorem dX7_set_28 : decode cX7_set 28 = .ok (.iload_n 3, 1) := by decide +kernel
theorem dX7_set_29 : decode cX7_set 29 = .ok (.invokevirtual 74, 3) := by decide +kernel
theorem dX7_set_32 : decode cX7_set 32 = .ok (.istore 5, 2) := by decide +kernel
theorem dX7_set_34 : decode cX7_set 34 = .ok (.aload 4, 2) := by decide +kernel
theorem dX7_set_36 : decode cX7_set 36 = .ok (.iload 5, 2) := by decide +kernel
theorem dX7_set_38 : decode cX7_set 38 = .ok (.iload_n 2, 1) := by decide +kernel
theorem dX7_set_39 : decode cX7_set 39 = .ok (.iload_n 3, 1) := by decide +kernel
theorem dX7_set_40 : decode cX7_set 40 = .ok (.invokevirtual 120, 3) := by decide +kernel
theorem dX7_set_43 : decode cX7_set 43 = .ok (.istore 6, 2) := by decide +kernel
theorem dX7_set_45 : decode cX7_set 45 = .ok (.aload_n 0, 1) := by decide +kernel
theorem dX7_set_46 : decode cX7_set 46 = .ok (.getfield 28, 3) := by decide +kernel
theorem dX7_set_49 : decode cX7_set 49 = .ok (.aload 4, 2) := by decide +kernel
theorem dX7_set_51 : decode cX7_set 51 = .ok (.iload 5, 2) := by decide +kernel
theorem dX7_set_53 : decode cX7_set 53 = .ok (.iload 6, 2) := by decide +kernel
theorem dX7_set_55 : decode cX7_set 55 = .ok (.iload_n 2, 1) := by decide +kernel
theorem dX7_set_56 : decode cX7_set 56 = .ok (.iload_n 3, 1) := by decide +kernel
theorem dX7_set_57 : decode cX7_set 57 = .ok (.aload 4, 2) := by decide +kernel
theorem dX7_set_59 : decode cX7_set 59 = .ok (.iload 5, 2) := by decide +kernel
theorem dX7_set_61 : decode cX7_set 61 = .ok (.iload_n 2, 1) := by decide +kernel
theorem dX7_set_62 : decode cX7_set 62 = .ok (.invokevirtual 110, 3) := by decide +kernel
theorem dX7_set_65 : decode cX7_set 65 = .ok (.invokevirtual 124, 3) := by decide +kernel
theorem dX7_set_68 : decode cX7_set 68 = .ok (.aload_n 0, 1) := by decide +kernel
theorem dX7_set_69 : decode cX7_set 69 = .ok (.getfield 28, 3) := by decide +kernel
theorem dX7_set_72 : decode cX7_set 72 = .ok (.invokevirtual 128, 3) := by decide +kernel
theorem dX7_set_75 : decode cX7_set 75 = .ok (.ireturn, 1) := by decide +kernel
set_option maxRecDepth 20000 in
theorem ggX7_spans_X7_isBook : GoodIn wsX7_spans wsX7_isBook := goodIn_r _ [6] (by decide +kernel) (by decide +kernel)
set_option maxRecDepth 20000 in
theorem gX7_spans_X7_isBook : GoodIn wsX7_spans (va_wsS RX7 63 yX7_isBook wsX7_isBook) := goodIn_app (goodIn_of _ (by decide +kernel)) ggX7_spans_X7_isBook
set_option maxRecDepth 20000 in
theorem ggX7_spans_X3_measure : GoodIn wsX7_spans wsX3_measure := goodIn_r _ [11, 12, 13, 14, 15, 16, 17, 18, 19, 20, 21, 22, 23, 24, 5, 25, 26, 27, 28, 29, 10, 30, 31, 32, 33, 34, 35, 36, 37, 38, 39, 40, 41, 42, 43, 44, 45, 46, 47, 48, 58, 59, 60, 61, 62, 63, 64, 65, 66, 67, 68] (by decide +kernel) (by decide +kernel)
set_option maxRecDepth 20000 in
theorem gX7_spans_X3_measure : GoodIn wsX7_spans (wsV RX7 132 RX3 yX3_measure wsX3_measure) := goodIn_app (goodIn_of _ (by decide +kernel)) ggX7_spans_X3_measure
theorem dX7_spans_0 : decode cX7_spans 0 = .ok (.iload_n 1, 1) := by decide +kernel
theorem dX7_spans_1 : decode cX7_spans 1 = .ok (.invokestatic 63, 3) := by decide +kernel
theorem dX7_spans_4 : decode cX7_spans 4 = .ok (.ifCond .ne 5, 3) := by decide +kernel
theorem dX7_spans_7 : decode cX7_spans 7 = .ok (.iconst (-1), 1) := by decide +kernel
theorem dX7_spans_8 : decode cX7_spans 8 = .ok (.ireturn, 1) := by decide +kernel
theorem dX7_spans_9 : decode cX7_spans 9 = .ok (.aload_n 0, 1) := by decide +kernel
theorem dX7_spans_10 : decode cX7_spans 10 = .ok (.getfield 35, 3) := by decide +kernel
theorem dX7_spans_13 : decode cX7_spans 13 = .ok (.aload_n 0, 1) := by decide +kernel
theorem dX7_spans_14 : decode cX7_spans 14 = .ok (.getfield 11, 3) := by decide +kernel
theorem dX7_spans_17 : decode cX7_spans 17 = .ok (.iload_n 1, 1) := by decide +kernel
theorem dX7_spans_18 : decode cX7_spans 18 = .ok (.aaload, 1) := by decide +kernel
theorem dX7_spans_19 : decode cX7_spans 19 = .ok (.invokevirtual 132, 3) := by decide +kernel
theorem dX7_spans_22 : decode cX7_spans 22 = .ok (.aload_n 0, 1) := by decide +kernel
theorem dX7_spans_23 : decode cX7_spans 23 = .ok (.getfield 35, 3) := by decide +kernel
theorem dX7_spans_26 : decode cX7_spans 26 = .ok (.getfield 135, 3) := by decide +kernel
theorem dX7_spans_29 : decode cX7_spans 29 = .ok (.ireturn, 1) := by decide +kernel
set_option maxRecDepth 20000 in
theorem ggX7_span_X7_isBook : GoodIn wsX7_span wsX7_isBook := goodIn_r _ [7] (by decide +kernel) (by decide +kernel)
set_option maxRecDepth 20000 in
theorem gX7_span_X7_isBook : GoodIn wsX7_span (va_wsS RX7 63 yX7_isBook wsX7_isBook) := goodIn_app (goodIn_of _ (by decide +kernel)) ggX7_span_X7_isBook
set_option maxRecDepth 20000 in
theorem ggX7_span_X3_measure : GoodIn wsX7_span wsX3_measure := goodIn_r _ [12, 13, 14, 15, 16, 17, 18, 19, 20, 21, 22, 23, 24, 25, 6, 26, 27, 28, 29, 30, 11, 31, 32, 33, 34, 35, 36, 37, 38, 39, 40, 41, 42, 43, 44, 45, 46, 47, 48, 49, 69, 70, 71, 72, 73, 74, 75, 76, 77, 78, 79] (by decide +kernel) (by decide +kernel)
set_option maxRecDepth 20000 in
theorem gX7_span_X3_measure : GoodIn wsX7_span (wsV RX7 132 RX3 yX3_measure wsX3_measure) := goodIn_app (goodIn_of _ (by decide +kernel)) ggX7_span_X3_measure
set_option maxRecDepth 20000 in
theorem ggX7_span_X3_tell : GoodIn wsX7_span wsX3_tell := goodIn_r _ [53, 13, 54, 49, 48, 55, 56, 57, 11, 58, 59, 69, 70, 71, 72, 73, 74] (by decide +kernel) (by decide +kernel)
set_option maxRecDepth 20000 in
theorem gX7_span_X3_tell : GoodIn wsX7_span (wsV RX7 136 RX3 yX3_tell wsX3_tell) := goodIn_app (goodIn_of _ (by decide +kernel)) ggX7_span_X3_tell
theorem dX7_span_0 : decode cX7_span 0 = .ok (.iload_n 1, 1) := by decide +kernel
theorem dX7_span_1 : decode cX7_span 1 = .ok (.invokestatic 63, 3) := by decide +kernel
theorem dX7_span_4 : decode cX7_span 4 = .ok (.ifCond .ne 7, 3) := by decide +kernel
theorem dX7_span_7 : decode cX7_span 7 = .ok (.ldc2_w 101, 3) := by decide +kernel
theorem dX7_span_10 : decode cX7_span 10 = .ok (.lreturn, 1) := by decide +kernel
theorem dX7_span_11 : decode cX7_span 11 = .ok (.aload_n 0, 1) := by decide +kernel
theorem dX7_span_12 : decode cX7_span 12 = .ok (.getfield 35, 3) := by decide +kernel
theorem dX7_span_15 : decode cX7_span 15 = .ok (.aload_n 0, 1) := by decide +kernel
theorem dX7_span_16 : decode cX7_span 16 = .ok (.getfield 11, 3) := by decide +kernel
theorem dX7_span_19 : decode cX7_span 19 = .ok (.iload_n 1, 1) := by decide +kernel
theorem dX7_span_20 : decode cX7_span 20 = .ok (.aaload, 1) := by decide +kernel
theorem dX7_span_21 : decode cX7_span 21 = .ok (.invokevirtual 132, 3) := by decide +kernel
theorem dX7_span_24 : decode cX7_span 24 = .ok (.aload_n 0, 1) := by decide +kernel
theorem dX7_span_25 : decode cX7_span 25 = .ok (.getfield 35, 3) := by decide +kernel
theorem dX7_span_28 : decode cX7_span 28 = .ok (.iload_n 2, 1) := by decide +kernel
theorem dX7_span_29 : decode cX7_span 29 = .ok (.iload_n 3, 1) := by decide +kernel
theorem dX7_span_30 : decode cX7_span 30 = .ok (.invokevirtual 136, 3) := by decide +kernel
theorem dX7_span_33 : decode cX7_span 33 = .ok (.lreturn, 1) := by decide +kernel
set_option maxRecDepth 20000 in
theorem ggX7_share_X7_isBook : GoodIn wsX7_share wsX7_isBook := goodIn_r _ [7] (by decide +kernel) (by decide +kernel)
set_option maxRecDepth 20000 in
theorem gX7_share_X7_isBook : GoodIn wsX7_share (va_wsS RX7 63 yX7_isBook wsX7_isBook) := goodIn_app (goodIn_of _ (by decide +kernel)) ggX7_share_X7_isBook
set_option maxRecDepth 20000 in
theorem ggX7_share_X7_isGoal : GoodIn wsX7_share wsX7_isGoal := goodIn_r _ [10] (by decide +kernel) (by decide +kernel)
set_option maxRecDepth 20000 in
theorem gX7_share_X7_isGoal : GoodIn wsX7_share (va_wsS RX7 71 yX7_isGoal wsX7_isGoal) := goodIn_app (goodIn_of _ (by decide +kernel)) ggX7_share_X7_isGoal
set_option maxRecDepth 20000 in
theorem ggX7_share_X3_measure : GoodIn wsX7_share wsX3_measure := goodIn_r _ [15, 16, 17, 18, 19, 20, 21, 22, 23, 24, 25, 26, 27, 28, 6, 29, 30, 31, 32, 33, 14, 34, 35, 36, 37, 38, 39, 40, 41, 42, 43, 44, 45, 46, 47, 48, 49, 50, 51, 52, 71, 72, 73, 74, 75, 76, 77, 78, 79, 80, 81] (by decide +kernel) (by decide +kernel)
set_option maxRecDepth 20000 in
theorem gX7_share_X3_measure : GoodIn wsX7_share (wsV RX7 132 RX3 yX3_measure wsX3_measure) := goodIn_app (goodIn_of _ (by decide +kernel)) ggX7_share_X3_measure
set_option maxRecDepth 20000 in
theorem ggX7_share_X3_addressesTo : GoodIn wsX7_share wsX3_addressesTo := goodIn_r _ [56, 16, 51, 52, 57, 58, 59, 14, 60, 61, 71, 72, 73, 74, 75, 76] (by decide +kernel) (by decide +kernel)
set_option maxRecDepth 20000 in
theorem gX7_share_X3_addressesTo : GoodIn wsX7_share (wsV RX7 140 RX3 yX3_addressesTo wsX3_addressesTo) := goodIn_app (goodIn_of _ (by decide +kernel)) ggX7_share_X3_addressesTo
theorem dX7_share_0 : decode cX7_share 0 = .ok (.iload_n 1, 1) := by decide +kernel
theorem dX7_share_1 : decode cX7_share 1 = .ok (.invokestatic 63, 3) := by decide +kernel
theorem dX7_share_4 : decode cX7_share 4 = .ok (.ifCond .eq 10, 3) := by decide +kernel
theorem dX7_share_7 : decode cX7_share 7 = .ok (.iload_n 2, 1) := by decide +kernel
theorem dX7_share_8 : decode cX7_share 8 = .ok (.invokestatic 71, 3) := by decide +kernel
theorem dX7_share_11 : decode cX7_share 11 = .ok (.ifCond .ne 7, 3) := by decide +kernel
theorem dX7_share_14 : decode cX7_share 14 = .ok (.ldc2_w 101, 3) := by decide +kernel
theorem dX7_share_17 : decode cX7_share 17 = .ok (.lreturn, 1) := by decide +kernel
theorem dX7_share_18 : decode cX7_share 18 = .ok (.aload_n 0, 1) := by decide +kernel
theorem dX7_share_19 : decode cX7_share 19 = .ok (.getfield 35, 3) := by decide +kernel
theorem dX7_share_22 : decode cX7_share 22 = .ok (.aload_n 0, 1) := by decide +kernel
theorem dX7_share_23 : decode cX7_share 23 = .ok (.getfield 11, 3) := by decide +kernel
theorem dX7_share_26 : decode cX7_share 26 = .ok (.iload_n 1, 1) := by decide +kernel
theorem dX7_share_27 : decode cX7_share 27 = .ok (.aaload, 1) := by decide +kernel
theorem dX7_share_28 : decode cX7_share 28 = .ok (.invokevirtual 132, 3) := by decide +kernel
theorem dX7_share_31 : decode cX7_share 31 = .ok (.aload_n 0, 1) := by decide +kernel
theorem dX7_share_32 : decode cX7_share 32 = .ok (.getfield 35, 3) := by decide +kernel
theorem dX7_share_35 : decode cX7_share 35 = .ok (.iload_n 2, 1) := by decide +kernel
theorem dX7_share_36 : decode cX7_share 36 = .ok (.invokevirtual 140, 3) := by decide +kernel
theorem dX7_share_39 : decode cX7_share 39 = .ok (.lreturn, 1) := by decide +kernel
set_option maxRecDepth 20000 in
theorem ggX7_same_X7_isBook : GoodIn wsX7_same wsX7_isBook := goodIn_r _ [5] (by decide +kernel) (by decide +kernel)
set_option maxRecDepth 20000 in
theorem gX7_same_X7_isBook : GoodIn wsX7_same (va_wsS RX7 63 yX7_isBook wsX7_isBook) := goodIn_app (goodIn_of _ (by decide +kernel)) ggX7_same_X7_isBook
set_option maxRecDepth 20000 in
theorem ggX7_same_X7_measureDifference : GoodIn wsX7_same wsX7_measureDifference := goodIn_r _ [9, 10, 11, 12, 1, 13, 14, 15, 16, 17, 18, 19, 20, 21, 22, 23, 24, 25, 26, 27, 28, 29, 30, 4, 31, 32, 33, 34, 35, 36, 37, 38, 39, 40, 41, 42, 43, 44, 45, 46, 47, 48, 49, 50, 51, 52, 53, 54, 55, 56, 57, 58, 59, 60, 61, 62, 63, 64, 65, 66, 67, 68, 69, 70, 71, 72, 73, 74, 75, 76, 77, 78, 79, 82, 83, 84, 85, 86, 87, 88, 89, 90, 91, 92, 80, 81] (by decide +kernel) (by decide +kernel)
set_option maxRecDepth 20000 in
theorem gX7_same_X7_measureDifference : GoodIn wsX7_same (wsV RX7 143 RX7 yX7_measureDifference wsX7_measureDifference) := goodIn_app (goodIn_of _ (by decide +kernel)) ggX7_same_X7_measureDifference
theorem dX7_same_0 : decode cX7_same 0 = .ok (.iload_n 1, 1) := by decide +kernel
theorem dX7_same_1 : decode cX7_same 1 = .ok (.invokestatic 63, 3) := by decide +kernel
theorem dX7_same_4 : decode cX7_same 4 = .ok (.ifCond .eq 10, 3) := by decide +kernel
theorem dX7_same_7 : decode cX7_same 7 = .ok (.iload_n 2, 1) := by decide +kernel
theorem dX7_same_8 : decode cX7_same 8 = .ok (.invokestatic 63, 3) := by decide +kernel
theorem dX7_same_11 : decode cX7_same 11 = .ok (.ifCond .ne 5, 3) := by decide +kernel
theorem dX7_same_14 : decode cX7_same 14 = .ok (.iconst (-1), 1) := by decide +kernel
theorem dX7_same_15 : decode cX7_same 15 = .ok (.ireturn, 1) := by decide +kernel
theorem dX7_same_16 : decode cX7_same 16 = .ok (.aload_n 0, 1) := by decide +kernel
theorem dX7_same_17 : decode cX7_same 17 = .ok (.iload_n 1, 1) := by decide +kernel
theorem dX7_same_18 : decode cX7_same 18 = .ok (.iload_n 2, 1) := by decide +kernel
theorem dX7_same_19 : decode cX7_same 19 = .ok (.invokevirtual 143, 3) := by decide +kernel
theorem dX7_same_22 : decode cX7_same 22 = .ok (.aload_n 0, 1) := by decide +kernel
theorem dX7_same_23 : decode cX7_same 23 = .ok (.getfield 45, 3) := by decide +kernel
theorem dX7_same_26 : decode cX7_same 26 = .ok (.getfield 147, 3) := by decide +kernel
theorem dX7_same_29 : decode cX7_same 29 = .ok (.lconst 0, 1) := by decide +kernel
theorem dX7_same_30 : decode cX7_same 30 = .ok (.lcmp, 1) := by decide +kernel
theorem dX7_same_31 : decode cX7_same 31 = .ok (.ifCond .ne 7, 3) := by decide +kernel
theorem dX7_same_34 : decode cX7_same 34 = .ok (.iconst 1, 1) := by decide +kernel
theorem dX7_same_35 : decode cX7_same 35 = .ok (.goto 4, 3) := by decide +kernel
theorem dX7_same_38 : decode cX7_same 38 = .ok (.iconst 0, 1) := by decide +kernel
theorem dX7_same_39 : decode cX7_same 39 = .ok (.ireturn, 1) := by decide +kernel
set_option maxRecDepth 20000 in
theorem ggX7_differ_X7_isBook : GoodIn wsX7_differ wsX7_isBook := goodIn_r _ [6] (by decide +kernel) (by decide +kernel)
set_option maxRecDepth 20000 in
theorem gX7_differ_X7_isBook : GoodIn wsX7_differ (va_wsS RX7 63 yX7_isBook wsX7_isBook) := goodIn_app (goodIn_of _ (by decide +kernel)) ggX7_differ_X7_isBook
set_option maxRecDepth 20000 in
theorem ggX7_differ_X7_measureDifference : GoodIn wsX7_differ wsX7_measureDifference := goodIn_r _ [10, 11, 12, 13, 2, 14, 15, 16, 17, 18, 19, 20, 21, 22, 23, 24, 25, 26, 27, 28, 29, 30, 31, 5, 32, 33, 34, 35, 36, 37, 38, 39, 40, 41, 42, 43, 44, 45, 46, 47, 48, 49, 50, 51, 52, 53, 54, 55, 56, 57, 58, 59, 60, 61, 62, 63, 64, 65, 66, 67, 68, 69, 70, 71, 72, 73, 74, 75, 76, 77, 78, 79, 80, 83, 84, 85, 86, 87, 88, 89, 90, 91, 92, 93, 81, 82] (by decide +kernel) (by decide +kernel)
set_option maxRecDepth 20000 in
theorem gX7_differ_X7_measureDifference : GoodIn wsX7_differ (wsV RX7 143 RX7 yX7_measureDifference wsX7_measureDifference) := goodIn_app (goodIn_of _ (by decide +kernel)) ggX7_differ_X7_measureDifference
theorem dX7_differ_0 : decode cX7_differ 0 = .ok (.iload_n 1, 1) := by decide +kernel
theorem dX7_differ_1 : decode cX7_differ 1 = .ok (.invokestatic 63, 3) := by decide +kernel
theorem dX7_differ_4 : decode cX7_differ 4 = .ok (.ifCond .eq 19, 3) := by decide +kernel
theorem dX7_differ_7 : decode cX7_differ 7 = .ok (.iload_n 2, 1) := by decide +kernel
theorem dX7_differ_8 : decode cX7_differ 8 = .ok (.invokestatic 63, 3) := by decide +kernel
theorem dX7_differ_11 : decode cX7_differ 11 = .ok (.ifCond .eq 12, 3) := by decide +kernel
theorem dX7_differ_14 : decode cX7_differ 14 = .ok (.iload_n 3, 1) := by decide +kernel
theorem dX7_differ_15 : decode cX7_differ 15 = .ok (.ifCond .lt 8, 3) := by decide +kernel
theorem dX7_differ_18 : decode cX7_differ 18 = .ok (.iload_n 3, 1) := by decide +kernel
theorem dX7_differ_19 : decode cX7_differ 19 = .ok (.iconst 1, 1) := by decide +kernel
theorem dX7_differ_20 : decode cX7_differ 20 = .ok (.if_icmp .le 7, 3) := by decide +kernel
theorem dX7_differ_23 : decode cX7_differ 23 = .ok (.ldc2_w 101, 3) := by decide +kernel
theorem dX7_differ_26 : decode cX7_differ 26 = .ok (.lreturn, 1) := by decide +kernel
theorem dX7_differ_27 : decode cX7_differ 27 = .ok (.aload_n 0, 1) := by decide +kernel
theorem dX7_differ_28 : decode cX7_differ 28 = .ok (.iload_n 1, 1) := by decide +kernel
theorem dX7_differ_29 : decode cX7_differ 29 = .ok (.iload_n 2, 1) := by decide +kernel
theorem dX7_differ_30 : decode cX7_differ 30 = .ok (.invokevirtual 143, 3) := by decide +kernel
theorem dX7_differ_33 : decode cX7_differ 33 = .ok (.iload_n 3, 1) := by decide +kernel
theorem dX7_differ_34 : decode cX7_differ 34 = .ok (.ifCond .ne 13, 3) := by decide +kernel
theorem dX7_differ_37 : decode cX7_differ 37 = .ok (.aload_n 0, 1) := by decide +kernel
theorem dX7_differ_38 : decode cX7_differ 38 = .ok (.getfield 45, 3) := by decide +kernel
theorem dX7_differ_41 : decode cX7_differ 41 = .ok (.getfield 151, 3) := by decide +kernel
theorem dX7_differ_44 : decode cX7_differ 44 = .ok (.goto 10, 3) := by decide +kernel
theorem dX7_differ_47 : decode cX7_differ 47 = .ok (.aload_n 0, 1) := by decide +kernel
theorem dX7_differ_48 : decode cX7_differ 48 = .ok (.getfield 45, 3) := by decide +kernel
theorem dX7_differ_51 : decode cX7_differ 51 = .ok (.getfield 147, 3) := by decide +kernel
theorem dX7_differ_54 : decode cX7_differ 54 = .ok (.lreturn, 1) := by decide +kernel
set_option maxRecDepth 20000 in
theorem ggX7_combine_X7_isBook : GoodIn wsX7_combine wsX7_isBook := goodIn_r _ [6] (by decide +kernel) (by decide +kernel)
set_option maxRecDepth 20000 in
theorem gX7_combine_X7_isBook : GoodIn wsX7_combine (va_wsS RX7 63 yX7_isBook wsX7_isBook) := goodIn_app (goodIn_of _ (by decide +kernel)) ggX7_combine_X7_isBook
set_option maxRecDepth 20000 in
theorem ggX7_combine_X2_merge : GoodIn wsX7_combine wsX2_merge := goodIn_r _ [11, 12, 13, 14, 15, 16, 17, 10, 18, 19, 20, 21, 22, 23, 5, 24, 25, 26, 27, 28, 29, 30, 31, 32, 33, 34, 35, 36, 37, 38, 39, 40, 41, 42, 43, 44, 45, 46, 47, 48, 49, 50, 51, 52, 53, 54, 55, 56, 152, 153, 154, 155, 156] (by decide +kernel) (by decide +kernel)
set_option maxRecDepth 20000 in
theorem gX7_combine_X2_merge : GoodIn wsX7_combine (wsV RX7 154 RX2 yX2_merge wsX2_merge) := goodIn_app (goodIn_of _ (by decide +kernel)) ggX7_combine_X2_merge
set_option maxRecDepth 20000 in
theorem ggX7_combine_X7_becomeLeast : GoodIn wsX7_combine wsX7_becomeLeast := goodIn_r _ [60, 61, 62, 63, 64, 65, 66, 67, 68, 69, 70, 71, 72, 73, 74, 75, 76, 77, 78, 79, 80, 81, 82, 27, 28, 10, 29, 12, 13, 14, 83, 84, 85, 86, 87, 5, 88, 89, 90, 91, 92, 93, 94, 95, 96, 97, 98, 99, 100, 101, 102, 103, 104, 105, 39, 40, 41, 42, 106, 107, 108, 109, 110, 46, 47, 48, 111, 112, 113, 114, 115, 16, 17, 18, 116, 117, 118, 119, 120, 121, 122, 123, 124, 125, 126, 53, 54, 55, 56, 34, 127, 128, 129, 130, 131, 132, 133, 134, 135, 136, 137, 138, 139, 140, 141, 142, 143, 144, 145, 146, 147, 148, 149, 150, 151, 152, 153, 154, 155, 156, 157, 158, 159, 160, 161, 162, 163] (by decide +kernel) (by decide +kernel)
set_option maxRecDepth 20000 in
theorem gX7_combine_X7_becomeLeast : GoodIn wsX7_combine (wsV RX7 116 RX7 yX7_becomeLeast wsX7_becomeLeast) := goodIn_app (goodIn_of _ (by decide +kernel)) ggX7_combine_X7_becomeLeast
theorem dX7_combine_0 : decode cX7_combine 0 = .ok (.iload_n 1, 1) := by decide +kernel
theorem dX7_combine_1 : decode cX7_combine 1 = .ok (.ifCond .lt 30, 3) := by decide +kernel
theorem dX7_combine_4 : decode cX7_combine 4 = .ok (.iload_n 1, 1) := by decide +kernel
theorem dX7_combine_5 : decode cX7_combine 5 = .ok (.iconst 2, 1) := by decide +kernel
theorem dX7_combine_6 : decode cX7_combine 6 = .ok (.if_icmp .gt 25, 3) := by decide +kernel
theorem dX7_combine_9 : decode cX7_combine 9 = .ok (.iload_n 2, 1) := by decide +kernel
theorem dX7_combine_10 : decode cX7_combine 10 = .ok (.invokestatic 63, 3) := by decide +kernel
theorem dX7_combine_13 : decode cX7_combine 13 = .ok (.ifCond .eq 18, 3) := by decide +kernel
theorem dX7_combine_16 : decode cX7_combine 16 = .ok (.iload_n 3, 1) := by decide +kernel
theorem dX7_combine_17 : decode cX7_combine 17 = .ok (.invokestatic 63, 3) := by decide +kernel
theorem dX7_combine_20 : decode cX7_combine 20 = .ok (.ifCond .eq 11, 3) := by decide +kernel
theorem dX7_combine_23 : decode cX7_combine 23 = .ok (.iload 4, 2) := by decide +kernel
theorem dX7_combine_25 : decode cX7_combine 25 = .ok (.invokestatic 63, 3) := by decide +kernel
theorem dX7_combine_28 : decode cX7_combine 28 = .ok (.ifCond .ne 5, 3) := by decide +kernel
theorem dX7_combine_31 : decode cX7_combine 31 = .ok (.iconst (-1), 1) := by decide +kernel
theorem dX7_combine_32 : decode cX7_combine 32 = .ok (.ireturn, 1) := by decide +kernel
theorem dX7_combine_33 : decode cX7_combine 33 = .ok (.aload_n 0, 1) := by decide +kernel
theorem dX7_combine_34 : decode cX7_combine 34 = .ok (.getfield 18, 3) := by decide +kernel
theorem dX7_combine_37 : decode cX7_combine 37 = .ok (.aload_n 0, 1) := by decide +kernel
theorem dX7_combine_38 : decode cX7_combine 38 = .ok (.getfield 11, 3) := by decide +kernel
theorem dX7_combine_41 : decode cX7_combine 41 = .ok (.iload_n 2, 1) := by decide +kernel
theorem dX7_combine_42 : decode cX7_combine 42 = .ok (.aaload, 1) := by decide +kernel
theorem dX7_combine_43 : decode cX7_combine 43 = .ok (.aload_n 0, 1) := by decide +kernel
theorem dX7_combine_44 : decode cX7_combine 44 = .ok (.getfield 11, 3) := by decide +kernel
theorem dX7_combine_47 : decode cX7_combine 47 = .ok (.iload_n 3, 1) := by decide +kernel
theorem dX7_combine_48 : decode cX7_combine 48 = .ok (.aaload, 1) := by decide +kernel
theorem dX7_combine_49 : decode cX7_combine 49 = .ok (.iload_n 1, 1) := by decide +kernel
theorem dX7_combine_50 : decode cX7_combine 50 = .ok (.invokevirtual 154, 3) := by decide +kernel
theorem dX7_combine_53 : decode cX7_combine 53 = .ok (.aload_n 0, 1) := by decide +kernel
theorem dX7_combine_54 : decode cX7_combine 54 = .ok (.aload_n 0, 1) := by decide +kernel
theorem dX7_combine_55 : decode cX7_combine 55 = .ok (.getfield 18, 3) := by decide +kernel
theorem dX7_combine_58 : decode cX7_combine 58 = .ok (.aload_n 0, 1) := by decide +kernel
theorem dX7_combine_59 : decode cX7_combine 59 = .ok (.getfield 11, 3) := by decide +kernel
theorem dX7_combine_62 : decode cX7_combine 62 = .ok (.iload 4, 2) := by decide +kernel
theorem dX7_combine_64 : decode cX7_combine 64 = .ok (.aaload, 1) := by decide +kernel
theorem dX7_combine_65 : decode cX7_combine 65 = .ok (.invokevirtual 116, 3) := by decide +kernel
theorem dX7_combine_68 : decode cX7_combine 68 = .ok (.ireturn, 1) := by decide +kernel
set_option maxRecDepth 20000 in
theorem ggX7_cover_X7_wide : GoodIn wsX7_cover wsX7_wide := goodIn_r _ [5, 6] (by decide +kernel) (by decide +kernel)
set_option maxRecDepth 20000 in
theorem gX7_cover_X7_wide : GoodIn wsX7_cover (va_wsS RX7 158 yX7_wide wsX7_wide) := goodIn_app (goodIn_of _ (by decide +kernel)) ggX7_cover_X7_wide
set_option maxRecDepth 20000 in
theorem ggX7_cover_X0_make : GoodIn wsX7_cover wsX0_make := goodIn_r _ [11, 12, 13, 14, 15, 16, 10, 17, 18, 19, 20, 21, 31, 32, 33] (by decide +kernel) (by decide +kernel)
set_option maxRecDepth 20000 in
theorem gX7_cover_X0_make : GoodIn wsX7_cover (wsV RX7 161 RX0 yX0_make wsX0_make) := goodIn_app (goodIn_of _ (by decide +kernel)) ggX7_cover_X0_make
theorem dX7_cover_0 : decode cX7_cover 0 = .ok (.iload_n 2, 1) := by decide +kernel
theorem dX7_cover_1 : decode cX7_cover 1 = .ok (.invokestatic 158, 3) := by decide +kernel
theorem dX7_cover_4 : decode cX7_cover 4 = .ok (.iload_n 1, 1) := by decide +kernel
theorem dX7_cover_5 : decode cX7_cover 5 = .ok (.invokestatic 158, 3) := by decide +kernel
theorem dX7_cover_8 : decode cX7_cover 8 = .ok (.lcmp, 1) := by decide +kernel
theorem dX7_cover_9 : decode cX7_cover 9 = .ok (.ifCond .ge 5, 3) := by decide +kernel
theorem dX7_cover_12 : decode cX7_cover 12 = .ok (.iconst (-1), 1) := by decide +kernel
theorem dX7_cover_13 : decode cX7_cover 13 = .ok (.ireturn, 1) := by decide +kernel
theorem dX7_cover_14 : decode cX7_cover 14 = .ok (.aload_n 0, 1) := by decide +kernel
theorem dX7_cover_15 : decode cX7_cover 15 = .ok (.getfield 52, 3) := by decide +kernel
theorem dX7_cover_18 : decode cX7_cover 18 = .ok (.iload_n 1, 1) := by decide +kernel
theorem dX7_cover_19 : decode cX7_cover 19 = .ok (.invokestatic 158, 3) := by decide +kernel
theorem dX7_cover_22 : decode cX7_cover 22 = .ok (.iload_n 2, 1) := by decide +kernel
theorem dX7_cover_23 : decode cX7_cover 23 = .ok (.invokestatic 158, 3) := by decide +kernel
theorem dX7_cover_26 : decode cX7_cover 26 = .ok (.invokevirtual 161, 3) := by decide +kernel
theorem dX7_cover_29 : decode cX7_cover 29 = .ok (.aload_n 0, 1) := by decide +kernel
theorem dX7_cover_30 : decode cX7_cover 30 = .ok (.getfield 52, 3) := by decide +kernel
theorem dX7_cover_33 : decode cX7_cover 33 = .ok (.getfield 165, 3) := by decide +kernel
theorem dX7_cover_36 : decode cX7_cover 36 = .ok (.ireturn, 1) := by decide +kernel
set_option maxRecDepth 20000 in
theorem ggX7_piece_X0_tell : GoodIn wsX7_piece wsX0_tell := goodIn_r _ [6, 7, 8, 9, 10, 20, 21, 22] (by decide +kernel) (by decide +kernel)
set_option maxRecDepth 20000 in
theorem gX7_piece_X0_tell : GoodIn wsX7_piece (wsV RX7 166 RX0 yX0_tell wsX0_tell) := goodIn_app (goodIn_of _ (by decide +kernel)) ggX7_piece_X0_tell
theorem dX7_piece_0 : decode cX7_piece 0 = .ok (.aload_n 0, 1) := by decide +kernel
theorem dX7_piece_1 : decode cX7_piece 1 = .ok (.getfield 52, 3) := by decide +kernel
theorem dX7_piece_4 : decode cX7_piece 4 = .ok (.iload_n 1, 1) := by decide +kernel
theorem dX7_piece_5 : decode cX7_piece 5 = .ok (.iload_n 2, 1) := by decide +kernel
theorem dX7_piece_6 : decode cX7_piece 6 = .ok (.invokevirtual 166, 3) := by decide +kernel
theorem dX7_piece_9 : decode cX7_piece 9 = .ok (.lreturn, 1) := by decide +kernel
set_option maxRecDepth 20000 in
theorem ggX7_way_X7_isBook : GoodIn wsX7_way wsX7_isBook := goodIn_r _ [6] (by decide +kernel) (by decide +kernel)
set_option maxRecDepth 20000 in
theorem gX7_way_X7_isBook : GoodIn wsX7_way (va_wsS RX7 63 yX7_isBook wsX7_isBook) := goodIn_app (goodIn_of _ (by decide +kernel)) ggX7_way_X7_isBook
set_option maxRecDepth 20000 in
theorem ggX7_way_X6_lay : GoodIn wsX7_way wsX6_lay := goodIn_r _ [11, 12, 13, 14, 15, 16, 17, 18, 19, 20, 21, 22, 23, 24, 25, 26, 27, 28, 29, 30, 31, 32, 33, 34, 35, 36, 37, 38, 39, 40, 41, 10, 42, 43, 44, 45, 46, 47, 48, 49, 50, 51, 52, 53, 54, 55, 56, 57, 58, 5, 59, 60, 61, 62, 63, 64, 65, 66, 67, 68, 69, 70, 71, 72, 73, 74, 75, 76, 86, 87, 88, 89, 90, 91, 92, 93, 94, 95] (by decide +kernel) (by decide +kernel)
set_option maxRecDepth 20000 in
theorem gX7_way_X6_lay : GoodIn wsX7_way (wsV RX7 167 RX6 yX6_lay wsX6_lay) := goodIn_app (goodIn_of _ (by decide +kernel)) ggX7_way_X6_lay
theorem dX7_way_0 : decode cX7_way 0 = .ok (.iload_n 1, 1) := by decide +kernel
theorem dX7_way_1 : decode cX7_way 1 = .ok (.invokestatic 63, 3) := by decide +kernel
theorem dX7_way_4 : decode cX7_way 4 = .ok (.ifCond .eq 10, 3) := by decide +kernel
theorem dX7_way_7 : decode cX7_way 7 = .ok (.iload_n 2, 1) := by decide +kernel
theorem dX7_way_8 : decode cX7_way 8 = .ok (.invokestatic 63, 3) := by decide +kernel
theorem dX7_way_11 : decode cX7_way 11 = .ok (.ifCond .ne 5, 3) := by decide +kernel
theorem dX7_way_14 : decode cX7_way 14 = .ok (.iconst (-1), 1) := by decide +kernel
theorem dX7_way_15 : decode cX7_way 15 = .ok (.ireturn, 1) := by decide +kernel
theorem dX7_way_16 : decode cX7_way 16 = .ok (.aload_n 0, 1) := by decide +kernel
theorem dX7_way_17 : decode cX7_way 17 = .ok (.getfield 59, 3) := by decide +kernel
theorem dX7_way_20 : decode cX7_way 20 = .ok (.aload_n 0, 1) := by decide +kernel
theorem dX7_way_21 : decode cX7_way 21 = .ok (.getfield 11, 3) := by decide +kernel
theorem dX7_way_24 : decode cX7_way 24 = .ok (.iload_n 1, 1) := by decide +kernel
theorem dX7_way_25 : decode cX7_way 25 = .ok (.aaload, 1) := by decide +kernel
theorem dX7_way_26 : decode cX7_way 26 = .ok (.aload_n 0, 1) := by decide +kernel
theorem dX7_way_27 : decode cX7_way 27 = .ok (.getfield 11, 3) := by decide +kernel
theorem dX7_way_30 : decode cX7_way 30 = .ok (.iload_n 2, 1) := by decide +kernel
theorem dX7_way_31 : decode cX7_way 31 = .ok (.aaload, 1) := by decide +kernel
theorem dX7_way_32 : decode cX7_way 32 = .ok (.invokevirtual 167, 3) := by decide +kernel
theorem dX7_way_35 : decode cX7_way 35 = .ok (.aload_n 0, 1) := by decide +kernel
theorem dX7_way_36 : decode cX7_way 36 = .ok (.getfield 59, 3) := by decide +kernel
theorem dX7_way_39 : decode cX7_way 39 = .ok (.getfield 171, 3) := by decide +kernel
theorem dX7_way_42 : decode cX7_way 42 = .ok (.ireturn, 1) := by decide +kernel
set_option maxRecDepth 20000 in
theorem ggX7_step_X6_tell : GoodIn wsX7_step wsX6_tell := goodIn_r _ [6, 7, 8, 9, 10, 11, 12, 13, 14, 15, 16, 17, 18, 19, 20, 21, 22, 23, 33, 34, 35, 36, 37, 38, 39, 40, 41, 42] (by decide +kernel) (by decide +kernel)
set_option maxRecDepth 20000 in
theorem gX7_step_X6_tell : GoodIn wsX7_step (wsV RX7 172 RX6 yX6_tell wsX6_tell) := goodIn_app (goodIn_of _ (by decide +kernel)) ggX7_step_X6_tell
theorem dX7_step_0 : decode cX7_step 0 = .ok (.aload_n 0, 1) := by decide +kernel
theorem dX7_step_1 : decode cX7_step 1 = .ok (.getfield 59, 3) := by decide +kernel
theorem dX7_step_4 : decode cX7_step 4 = .ok (.iload_n 1, 1) := by decide +kernel
theorem dX7_step_5 : decode cX7_step 5 = .ok (.iload_n 2, 1) := by decide +kernel
theorem dX7_step_6 : decode cX7_step 6 = .ok (.invokevirtual 172, 3) := by decide +kernel
theorem dX7_step_9 : decode cX7_step 9 = .ok (.lreturn, 1) := by decide +kernel
set_option maxRecDepth 20000 in
theorem ggX7_led_X6_goalBehind : GoodIn wsX7_led wsX6_goalBehind := goodIn_r _ [6, 7, 8, 9, 10, 11, 12, 13, 14, 15, 16, 17, 18, 19, 5, 20, 21, 22, 23, 24, 25, 26, 27, 28, 29, 30, 40, 41, 42, 43, 44, 45, 46, 47, 48, 49] (by decide +kernel) (by decide +kernel)
set_option maxRecDepth 20000 in
theorem gX7_led_X6_goalBehind : GoodIn wsX7_led (wsV RX7 173 RX6 yX6_goalBehind wsX6_goalBehind) := goodIn_app (goodIn_of _ (by decide +kernel)) ggX7_led_X6_goalBehind
theorem dX7_led_0 : decode cX7_led 0 = .ok (.aload_n 0, 1) := by decide +kernel
theorem dX7_led_1 : decode cX7_led 1 = .ok (.getfield 59, 3) := by decide +kernel
theorem dX7_led_4 : decode cX7_led 4 = .ok (.iload_n 1, 1) := by decide +kernel
theorem dX7_led_5 : decode cX7_led 5 = .ok (.iload_n 2, 1) := by decide +kernel
theorem dX7_led_6 : decode cX7_led 6 = .ok (.invokevirtual 173, 3) := by decide +kernel
theorem dX7_led_9 : decode cX7_led 9 = .ok (.ireturn, 1) := by decide +kernel
set_option maxRecDepth 20000 in
theorem ggX7_nodes_X7_isBook : GoodIn wsX7_nodes wsX7_isBook := goodIn_r _ [7] (by decide +kernel) (by decide +kernel)
set_option maxRecDepth 20000 in
theorem gX7_nodes_X7_isBook : GoodIn wsX7_nodes (va_wsS RX7 63 yX7_isBook wsX7_isBook) := goodIn_app (goodIn_of _ (by decide +kernel)) ggX7_nodes_X7_isBook
set_option maxRecDepth 20000 in
theorem ggX7_nodes_X5_plantWhole : GoodIn wsX7_nodes wsX5_plantWhole := goodIn_r _ [12, 13, 14, 15, 16, 17, 11, 18, 19, 20, 21, 22, 23, 24, 25, 26, 27, 28, 29, 30, 31, 32, 33, 34, 35, 36, 37, 38, 6, 39, 40, 41, 42, 43, 44, 45, 46, 47, 48, 49, 50, 51, 52, 53, 54, 55, 56, 57, 58, 59, 60, 61, 62, 63, 64, 65, 66, 67, 68, 101, 102, 103, 104, 105, 106, 107, 108, 109, 110, 111, 112] (by decide +kernel) (by decide +kernel)
set_option maxRecDepth 20000 in
theorem gX7_nodes_X5_plantWhole : GoodIn wsX7_nodes (wsV RX7 176 RX5 yX5_plantWhole wsX5_plantWhole) := goodIn_app (goodIn_of _ (by decide +kernel)) ggX7_nodes_X5_plantWhole
set_option maxRecDepth 20000 in
theorem ggX7_nodes_X4_nodesOf : GoodIn wsX7_nodes wsX4_nodesOf := goodIn_r _ [72, 73, 74, 71, 75, 76, 77, 78, 66, 6, 67, 68, 58, 59, 60, 108, 109, 110, 111, 112] (by decide +kernel) (by decide +kernel)
set_option maxRecDepth 20000 in
theorem gX7_nodes_X4_nodesOf : GoodIn wsX7_nodes (va_wsS RX7 180 yX4_nodesOf wsX4_nodesOf) := goodIn_app (goodIn_of _ (by decide +kernel)) ggX7_nodes_X4_nodesOf
set_option maxRecDepth 20000 in
theorem ggX7_nodes_X4_deepest : GoodIn wsX7_nodes wsX4_deepest := goodIn_r _ [81, 76, 78, 108, 109, 110, 111, 112] (by decide +kernel) (by decide +kernel)
set_option maxRecDepth 20000 in
theorem gX7_nodes_X4_deepest : GoodIn wsX7_nodes (va_wsS RX7 186 yX4_deepest wsX4_deepest) := goodIn_app (goodIn_of _ (by decide +kernel)) ggX7_nodes_X4_deepest
set_option maxRecDepth 20000 in
theorem ggX7_nodes_X4_stepsDownTo : GoodIn wsX7_nodes wsX4_stepsDownTo := goodIn_r _ [84] (by decide +kernel) (by decide +kernel)
set_option maxRecDepth 20000 in
theorem gX7_nodes_X4_stepsDownTo : GoodIn wsX7_nodes (va_wsS RX7 189 yX4_stepsDownTo wsX4_stepsDownTo) := goodIn_app (goodIn_of _ (by decide +kernel)) ggX7_nodes_X4_stepsDownTo
set_option maxRecDepth 20000 in
theorem ggX7_nodes_X4_firstDeepest : GoodIn wsX7_nodes wsX4_firstDeepest := goodIn_r _ [87, 76, 78, 77, 88, 80, 71, 81, 66, 6, 67, 68, 58, 59, 60, 89, 90, 91, 108, 109, 110, 111, 112] (by decide +kernel) (by decide +kernel)
set_option maxRecDepth 20000 in
theorem gX7_nodes_X4_firstDeepest : GoodIn wsX7_nodes (va_wsS RX7 193 yX4_firstDeepest wsX4_firstDeepest) := goodIn_app (goodIn_of _ (by decide +kernel)) ggX7_nodes_X4_firstDeepest
theorem dX7_nodes_0 : decode cX7_nodes 0 = .ok (.iload_n 1, 1) := by decide +kernel
theorem dX7_nodes_1 : decode cX7_nodes 1 = .ok (.invokestatic 63, 3) := by decide +kernel
theorem dX7_nodes_4 : decode cX7_nodes 4 = .ok (.ifCond .ne 7, 3) := by decide +kernel
theorem dX7_nodes_7 : decode cX7_nodes 7 = .ok (.ldc2_w 101, 3) := by decide +kernel
theorem dX7_nodes_10 : decode cX7_nodes 10 = .ok (.lreturn, 1) := by decide +kernel
theorem dX7_nodes_11 : decode cX7_nodes 11 = .ok (.iload_n 2, 1) := by decide +kernel
theorem dX7_nodes_12 : decode cX7_nodes 12 = .ok (.tableswitch 89 0 3 #[32, 54, 65, 79], 32) := by decide +kernel
theorem dX7_nodes_44 : decode cX7_nodes 44 = .ok (.aload_n 0, 1) := by decide +kernel
theorem dX7_nodes_45 : decode cX7_nodes 45 = .ok (.getfield 28, 3) := by decide +kernel
theorem dX7_nodes_48 : decode cX7_nodes 48 = .ok (.aload_n 0, 1) := by decide +kernel
theorem dX7_nodes_49 : decode cX7_nodes 49 = .ok (.getfield 11, 3) := by decide +kernel
theorem dX7_nodes_52 : decode cX7_nodes 52 = .ok (.iload_n 1, 1) := by decide +kernel
theorem dX7_nodes_53 : decode cX7_nodes 53 = .ok (.aaload, 1) := by decide +kernel
theorem dX7_nodes_54 : decode cX7_nodes 54 = .ok (.invokevirtual 176, 3) := by decide +kernel
theorem dX7_nodes_57 : decode cX7_nodes 57 = .ok (.aload_n 0, 1) := by decide +kernel
theorem dX7_nodes_58 : decode cX7_nodes 58 = .ok (.getfield 28, 3) := by decide +kernel
theorem dX7_nodes_61 : decode cX7_nodes 61 = .ok (.getfield 179, 3) := by decide +kernel
theorem dX7_nodes_64 : decode cX7_nodes 64 = .ok (.i2l, 1) := by decide +kernel
theorem dX7_nodes_65 : decode cX7_nodes 65 = .ok (.lreturn, 1) := by decide +kernel
theorem dX7_nodes_66 : decode cX7_nodes 66 = .ok (.aload_n 0, 1) := by decide +kernel
theorem dX7_nodes_67 : decode cX7_nodes 67 = .ok (.getfield 11, 3) := by decide +kernel
theorem dX7_nodes_70 : decode cX7_nodes 70 = .ok (.iload_n 1, 1) := by decide +kernel
theorem dX7_nodes_71 : decode cX7_nodes 71 = .ok (.aaload, 1) := by decide +kernel
theorem dX7_nodes_72 : decode cX7_nodes 72 = .ok (.invokestatic 180, 3) := by decide +kernel
theorem dX7_nodes_75 : decode cX7_nodes 75 = .ok (.i2l, 1) := by decide +kernel
theorem dX7_nodes_76 : decode cX7_nodes 76 = .ok (.lreturn, 1) := by decide +kernel
theorem dX7_nodes_77 : decode cX7_nodes 77 = .ok (.aload_n 0, 1) := by decide +kernel
theorem dX7_nodes_78 : decode cX7_nodes 78 = .ok (.getfield 11, 3) := by decide +kernel
theorem dX7_nodes_81 : decode cX7_nodes 81 = .ok (.iload_n 1, 1) := by decide +kernel
theorem dX7_nodes_82 : decode cX7_nodes 82 = .ok (.aaload, 1) := by decide +kernel
theorem dX7_nodes_83 : decode cX7_nodes 83 = .ok (.invokestatic 186, 3) := by decide +kernel
theorem dX7_nodes_86 : decode cX7_nodes 86 = .ok (.invokestatic 189, 3) := by decide +kernel
theorem dX7_nodes_89 : decode cX7_nodes 89 = .ok (.i2l, 1) := by decide +kernel
theorem dX7_nodes_90 : decode cX7_nodes 90 = .ok (.lreturn, 1) := by decide +kernel
theorem dX7_nodes_91 : decode cX7_nodes 91 = .ok (.aload_n 0, 1) := by decide +kernel
theorem dX7_nodes_92 : decode cX7_nodes 92 = .ok (.getfield 11, 3) := by decide +kernel
theorem dX7_nodes_95 : decode cX7_nodes 95 = .ok (.iload_n 1, 1) := by decide +kernel
theorem dX7_nodes_96 : decode cX7_nodes 96 = .ok (.aaload, 1) := by decide +kernel
theorem dX7_nodes_97 : decode cX7_nodes 97 = .ok (.invokestatic 193, 3) := by decide +kernel
theorem dX7_nodes_100 : decode cX7_nodes 100 = .ok (.lreturn, 1) := by decide +kernel
theorem dX7_nodes_101 : decode cX7_nodes 101 = .ok (.ldc2_w 101, 3) := by decide +kernel
theorem dX7_nodes_104 : decode cX7_nodes 104 = .ok (.lreturn, 1) := by decide +kernel
set_option maxRecDepth 20000 in
theorem ggX7_steps_X7_isBook : GoodIn wsX7_steps wsX7_isBook := goodIn_r _ [5] (by decide +kernel) (by decide +kernel)
set_option maxRecDepth 20000 in
theorem gX7_steps_X7_isBook : GoodIn wsX7_steps (va_wsS RX7 63 yX7_isBook wsX7_isBook) := goodIn_app (goodIn_of _ (by decide +kernel)) ggX7_steps_X7_isBook
set_option maxRecDepth 20000 in
theorem ggX7_steps_X4_stepsOf : GoodIn wsX7_steps wsX4_stepsOf := goodIn_r _ [9, 10, 4, 11, 12, 13, 14, 15, 16, 17, 8, 18, 19, 20, 21, 22, 23, 24, 25, 26, 27, 37, 38, 39, 40, 41] (by decide +kernel) (by decide +kernel)
set_option maxRecDepth 20000 in
theorem gX7_steps_X4_stepsOf : GoodIn wsX7_steps (va_wsS RX7 197 yX4_stepsOf wsX4_stepsOf) := goodIn_app (goodIn_of _ (by decide +kernel)) ggX7_steps_X4_stepsOf
theorem dX7_steps_0 : decode cX7_steps 0 = .ok (.iload_n 1, 1) := by decide +kernel
theorem dX7_steps_1 : decode cX7_steps 1 = .ok (.invokestatic 63, 3) := by decide +kernel
theorem dX7_steps_4 : decode cX7_steps 4 = .ok (.ifCond .eq 16, 3) := by decide +kernel
theorem dX7_steps_7 : decode cX7_steps 7 = .ok (.aload_n 0, 1) := by decide +kernel
theorem dX7_steps_8 : decode cX7_steps 8 = .ok (.getfield 11, 3) := by decide +kernel
theorem dX7_steps_11 : decode cX7_steps 11 = .ok (.iload_n 1, 1) := by decide +kernel
theorem dX7_steps_12 : decode cX7_steps 12 = .ok (.aaload, 1) := by decide +kernel
theorem dX7_steps_13 : decode cX7_steps 13 = .ok (.iload_n 2, 1) := by decide +kernel
theorem dX7_steps_14 : decode cX7_steps 14 = .ok (.invokestatic 197, 3) := by decide +kernel
theorem dX7_steps_17 : decode cX7_steps 17 = .ok (.goto 4, 3) := by decide +kernel
theorem dX7_steps_20 : decode cX7_steps 20 = .ok (.iconst (-1), 1) := by decide +kernel
theorem dX7_steps_21 : decode cX7_steps 21 = .ok (.ireturn, 1) := by decide +kernel
set_option maxRecDepth 20000 in
theorem ggX7_becomeLeast_X5_plantWhole : GoodIn wsX7_becomeLeast wsX5_plantWhole := goodIn_r _ [8, 9, 10, 11, 12, 13, 7, 14, 15, 16, 17, 18, 19, 20, 21, 22, 23, 24, 25, 26, 27, 28, 29, 30, 31, 32, 33, 34, 35, 36, 37, 38, 39, 40, 41, 42, 43, 44, 45, 46, 47, 48, 49, 50, 51, 52, 53, 54, 55, 56, 57, 58, 59, 60, 61, 62, 63, 64, 65, 120, 121, 122, 123, 124, 125, 126, 115, 116, 117, 118, 119] (by decide +kernel) (by decide +kernel)
set_option maxRecDepth 20000 in
theorem gX7_becomeLeast_X5_plantWhole : GoodIn wsX7_becomeLeast (wsV RX7 176 RX5 yX5_plantWhole wsX5_plantWhole) := goodIn_app (goodIn_of _ (by decide +kernel)) ggX7_becomeLeast_X5_plantWhole
set_option maxRecDepth 20000 in
theorem ggX7_becomeLeast_X5_writeLeast : GoodIn wsX7_becomeLeast wsX5_writeLeast := goodIn_r _ [69, 70, 71, 72, 25, 73, 27, 74, 75, 76, 7, 77, 9, 15, 16, 21, 19, 20, 78, 79, 80, 81, 82, 60, 83, 62, 84, 85, 86, 87, 88, 28, 29, 89, 90, 91, 92, 34, 35, 36, 37, 93, 41, 42, 43, 44, 17, 45, 46, 47, 94, 95, 96, 97, 115, 116, 117, 118, 119, 120, 121, 122, 123, 124, 125, 126] (by decide +kernel) (by decide +kernel)
set_option maxRecDepth 20000 in
theorem gX7_becomeLeast_X5_writeLeast : GoodIn wsX7_becomeLeast (wsV RX7 201 RX5 yX5_writeLeast wsX5_writeLeast) := goodIn_app (goodIn_of _ (by decide +kernel)) ggX7_becomeLeast_X5_writeLeast
set_option maxRecDepth 20000 in
theorem ggX7_becomeLeast_X2_become : GoodIn wsX7_becomeLeast wsX2_become := goodIn_r _ [101, 27, 88, 54, 55, 56, 57, 28, 29, 89, 102, 103, 104, 25, 105, 115, 116, 117, 118, 119] (by decide +kernel) (by decide +kernel)
set_option maxRecDepth 20000 in
theorem gX7_becomeLeast_X2_become : GoodIn wsX7_becomeLeast (wsV RX7 93 RX2 yX2_become wsX2_become) := goodIn_app (goodIn_of _ (by decide +kernel)) ggX7_becomeLeast_X2_become
theorem dX7_becomeLeast_0 : decode cX7_becomeLeast 0 = .ok (.aload_n 0, 1) := by decide +kernel
theorem dX7_becomeLeast_1 : decode cX7_becomeLeast 1 = .ok (.getfield 28, 3) := by decide +kernel
theorem dX7_becomeLeast_4 : decode cX7_becomeLeast 4 = .ok (.aload_n 1, 1) := by decide +kernel
theorem dX7_becomeLeast_5 : decode cX7_becomeLeast 5 = .ok (.invokevirtual 176, 3) := by decide +kernel
theorem dX7_becomeLeast_8 : decode cX7_becomeLeast 8 = .ok (.aload_n 0, 1) := by decide +kernel
theorem dX7_becomeLeast_9 : decode cX7_becomeLeast 9 = .ok (.getfield 28, 3) := by decide +kernel
theorem dX7_becomeLeast_12 : decode cX7_becomeLeast 12 = .ok (.aload_n 0, 1) := by decide +kernel
theorem dX7_becomeLeast_13 : decode cX7_becomeLeast 13 = .ok (.getfield 22, 3) := by decide +kernel
theorem dX7_becomeLeast_16 : decode cX7_becomeLeast 16 = .ok (.invokevirtual 201, 3) := by decide +kernel
theorem dX7_becomeLeast_19 : decode cX7_becomeLeast 19 = .ok (.aload_n 0, 1) := by decide +kernel
theorem dX7_becomeLeast_20 : decode cX7_becomeLeast 20 = .ok (.getfield 22, 3) := by decide +kernel
theorem dX7_becomeLeast_23 : decode cX7_becomeLeast 23 = .ok (.getfield 97, 3) := by decide +kernel
theorem dX7_becomeLeast_26 : decode cX7_becomeLeast 26 = .ok (.bipush 64, 2) := by decide +kernel
theorem dX7_becomeLeast_28 : decode cX7_becomeLeast 28 = .ok (.if_icmp .le 6, 3) := by decide +kernel
theorem dX7_becomeLeast_31 : decode cX7_becomeLeast 31 = .ok (.bipush (-2), 2) := by decide +kernel
theorem dX7_becomeLeast_33 : decode cX7_becomeLeast 33 = .ok (.ireturn, 1) := by decide +kernel
theorem dX7_becomeLeast_34 : decode cX7_becomeLeast 34 = .ok (.aload_n 2, 1) := by decide +kernel
theorem dX7_becomeLeast_35 : decode cX7_becomeLeast 35 = .ok (.aload_n 0, 1) := by decide +kernel
theorem dX7_becomeLeast_36 : decode cX7_becomeLeast 36 = .ok (.getfield 22, 3) := by decide +kernel
theorem dX7_becomeLeast_39 : decode cX7_becomeLeast 39 = .ok (.invokevirtual 93, 3) := by decide +kernel
theorem dX7_becomeLeast_42 : decode cX7_becomeLeast 42 = .ok (.aload_n 2, 1) := by decide +kernel
theorem dX7_becomeLeast_43 : decode cX7_becomeLeast 43 = .ok (.getfield 97, 3) := by decide +kernel
theorem dX7_becomeLeast_46 : decode cX7_becomeLeast 46 = .ok (.ireturn, 1) := by decide +kernel
end
section
set_option maxRecDepth 20000 in
theorem ggX7_measureDifference_X3_measure : GoodIn wsX7_measureDifference wsX3_measure := goodIn_r _ [9, 10, 11, 12, 13, 14, 15, 16, 17, 18, 19, 20, 21, 22, 23, 24, 25, 26, 27, 28, 8, 29, 30, 31, 32, 33, 34, 35, 36, 37, 38, 39, 40, 41, 42, 43, 44, 45, 46, 47, 73, 74, 75, 76, 77, 78, 79, 80, 81, 82, 83] (by decide +kernel) (by decide +kernel)
set_option maxRecDepth 20000 in
theorem gX7_measureDifference_X3_measure : GoodIn wsX7_measureDifference (wsV RX7 132 RX3 yX3_measure wsX3_measure) := goodIn_app (goodIn_of _ (by decide +kernel)) ggX7_measureDifference_X3_measure
set_option maxRecDepth 20000 in
theorem ggX7_measureDifference_X1_measure : GoodIn wsX7_measureDifference wsX1_measure := goodIn_r _ [52, 53, 54, 55, 56, 57, 40, 58, 59, 60, 61, 8, 62, 10, 47, 63, 84, 85, 73, 74, 75, 76, 77, 78] (by decide +kernel) (by decide +kernel)
set_option maxRecDepth 20000 in
theorem gX7_measureDifference_X1_measure : GoodIn wsX7_measureDifference (wsV RX7 204 RX1 yX1_measure wsX1_measure) := goodIn_app (goodIn_of _ (by decide +kernel)) ggX7_measureDifference_X1_measure
theorem dX7_measureDifference_0 : decode cX7_measureDifference 0 = .ok (.aload_n 0, 1) := by decide +kernel
theorem dX7_measureDifference_1 : decode cX7_measureDifference 1 = .ok (.getfield 35, 3) := by decide +kernel
theorem dX7_measureDifference_4 : decode cX7_measureDifference 4 = .ok (.aload_n 0, 1) := by decide +kernel
theorem dX7_measureDifference_5 : decode cX7_measureDifference 5 = .ok (.getfield 11, 3) := by decide +kernel
theorem dX7_measureDifference_8 : decode cX7_measureDifference 8 = .ok (.iload_n 1, 1) := by decide +kernel
theorem dX7_measureDifference_9 : decode cX7_measureDifference 9 = .ok (.aaload, 1) := by decide +kernel
theorem dX7_measureDifference_10 : decode cX7_measureDifference 10 = .ok (.invokevirtual 132, 3) := by decide +kernel
theorem dX7_measureDifference_13 : decode cX7_measureDifference 13 = .ok (.aload_n 0, 1) := by decide +kernel
theorem dX7_measureDifference_14 : decode cX7_measureDifference 14 = .ok (.getfield 39, 3) := by decide +kernel
theorem dX7_measureDifference_17 : decode cX7_measureDifference 17 = .ok (.aload_n 0, 1) := by decide +kernel
theorem dX7_measureDifference_18 : decode cX7_measureDifference 18 = .ok (.getfield 11, 3) := by decide +kernel
theorem dX7_measureDifference_21 : decode cX7_measureDifference 21 = .ok (.iload_n 2, 1) := by decide +kernel
theorem dX7_measureDifference_22 : decode cX7_measureDifference 22 = .ok (.aaload, 1) := by decide +kernel
theorem dX7_measureDifference_23 : decode cX7_measureDifference 23 = .ok (.invokevirtual 132, 3) := by decide +kernel
theorem dX7_measureDifference_26 : decode cX7_measureDifference 26 = .ok (.aload_n 0, 1) := by decide +kernel
theorem dX7_measureDifference_27 : decode cX7_measureDifference 27 = .ok (.getfield 45, 3) := by decide +kernel
theorem dX7_measureDifference_30 : decode cX7_measureDifference 30 = .ok (.aload_n 0, 1) := by decide +kernel
theorem dX7_measureDifference_31 : decode cX7_measureDifference 31 = .ok (.getfield 35, 3) := by decide +kernel
theorem dX7_measureDifference_34 : decode cX7_measureDifference 34 = .ok (.aload_n 0, 1) := by decide +kernel
theorem dX7_measureDifference_35 : decode cX7_measureDifference 35 = .ok (.getfield 39, 3) := by decide +kernel
theorem dX7_measureDifference_38 : decode cX7_measureDifference 38 = .ok (.invokevirtual 204, 3) := by decide +kernel
theorem dX7_measureDifference_41 : decode cX7_measureDifference 41 = .ok (.return_, 1) := by decide +kernel
theorem dX7_isBook_0 : decode cX7_isBook 0 = .ok (.iload_n 0, 1) := by decide +kernel
theorem dX7_isBook_1 : decode cX7_isBook 1 = .ok (.ifCond .lt 13, 3) := by decide +kernel
theorem dX7_isBook_4 : decode cX7_isBook 4 = .ok (.iload_n 0, 1) := by decide +kernel
theorem dX7_isBook_5 : decode cX7_isBook 5 = .ok (.bipush 6, 2) := by decide +kernel
theorem dX7_isBook_7 : decode cX7_isBook 7 = .ok (.if_icmp .ge 7, 3) := by decide +kernel
theorem dX7_isBook_10 : decode cX7_isBook 10 = .ok (.iconst 1, 1) := by decide +kernel
theorem dX7_isBook_11 : decode cX7_isBook 11 = .ok (.goto 4, 3) := by decide +kernel
theorem dX7_isBook_14 : decode cX7_isBook 14 = .ok (.iconst 0, 1) := by decide +kernel
theorem dX7_isBook_15 : decode cX7_isBook 15 = .ok (.ireturn, 1) := by decide +kernel
theorem dX7_isGoal_0 : decode cX7_isGoal 0 = .ok (.iload_n 0, 1) := by decide +kernel
theorem dX7_isGoal_1 : decode cX7_isGoal 1 = .ok (.ifCond .lt 13, 3) := by decide +kernel
theorem dX7_isGoal_4 : decode cX7_isGoal 4 = .ok (.iload_n 0, 1) := by decide +kernel
theorem dX7_isGoal_5 : decode cX7_isGoal 5 = .ok (.bipush 16, 2) := by decide +kernel
theorem dX7_isGoal_7 : decode cX7_isGoal 7 = .ok (.if_icmp .gt 7, 3) := by decide +kernel
theorem dX7_isGoal_10 : decode cX7_isGoal 10 = .ok (.iconst 1, 1) := by decide +kernel
theorem dX7_isGoal_11 : decode cX7_isGoal 11 = .ok (.goto 4, 3) := by decide +kernel
theorem dX7_isGoal_14 : decode cX7_isGoal 14 = .ok (.iconst 0, 1) := by decide +kernel
theorem dX7_isGoal_15 : decode cX7_isGoal 15 = .ok (.ireturn, 1) := by decide +kernel
set_option maxRecDepth 20000 in
theorem ggX7_isBeginning_X7_mask : GoodIn wsX7_isBeginning wsX7_mask := goodIn_r _ [4, 5, 6, 7, 8] (by decide +kernel) (by decide +kernel)
set_option maxRecDepth 20000 in
theorem gX7_isBeginning_X7_mask : GoodIn wsX7_isBeginning (va_wsS RX7 207 yX7_mask wsX7_mask) := goodIn_app (goodIn_of _ (by decide +kernel)) ggX7_isBeginning_X7_mask
theorem dX7_isBeginning_0 : decode cX7_isBeginning 0 = .ok (.iload_n 1, 1) := by decide +kernel
theorem dX7_isBeginning_1 : decode cX7_isBeginning 1 = .ok (.ifCond .lt 24, 3) := by decide +kernel
theorem dX7_isBeginning_4 : decode cX7_isBeginning 4 = .ok (.iload_n 1, 1) := by decide +kernel
theorem dX7_isBeginning_5 : decode cX7_isBeginning 5 = .ok (.bipush 32, 2) := by decide +kernel
theorem dX7_isBeginning_7 : decode cX7_isBeginning 7 = .ok (.if_icmp .gt 18, 3) := by decide +kernel
theorem dX7_isBeginning_10 : decode cX7_isBeginning 10 = .ok (.iload_n 0, 1) := by decide +kernel
theorem dX7_isBeginning_11 : decode cX7_isBeginning 11 = .ok (.iload_n 1, 1) := by decide +kernel
theorem dX7_isBeginning_12 : decode cX7_isBeginning 12 = .ok (.invokestatic 207, 3) := by decide +kernel
theorem dX7_isBeginning_15 : decode cX7_isBeginning 15 = .ok (.iconst (-1), 1) := by decide +kernel
theorem dX7_isBeginning_16 : decode cX7_isBeginning 16 = .ok (.ixor, 1) := by decide +kernel
theorem dX7_isBeginning_17 : decode cX7_isBeginning 17 = .ok (.iand, 1) := by decide +kernel
theorem dX7_isBeginning_18 : decode cX7_isBeginning 18 = .ok (.ifCond .ne 7, 3) := by decide +kernel
theorem dX7_isBeginning_21 : decode cX7_isBeginning 21 = .ok (.iconst 1, 1) := by decide +kernel
theorem dX7_isBeginning_22 : decode cX7_isBeginning 22 = .ok (.goto 4, 3) := by decide +kernel
theorem dX7_isBeginning_25 : decode cX7_isBeginning 25 = .ok (.iconst 0, 1) := by decide +kernel
theorem dX7_isBeginning_26 : decode cX7_isBeginning 26 = .ok (.ireturn, 1) := by decide +kernel
set_option maxRecDepth 20000 in
theorem ggX7_begins_X7_mask : GoodIn wsX7_begins wsX7_mask := goodIn_r _ [4, 5, 6, 7, 8] (by decide +kernel) (by decide +kernel)
set_option maxRecDepth 20000 in
theorem gX7_begins_X7_mask : GoodIn wsX7_begins (va_wsS RX7 207 yX7_mask wsX7_mask) := goodIn_app (goodIn_of _ (by decide +kernel)) ggX7_begins_X7_mask
theorem dX7_begins_0 : decode cX7_begins 0 = .ok (.iload_n 0, 1) := by decide +kernel
theorem dX7_begins_1 : decode cX7_begins 1 = .ok (.iload_n 2, 1) := by decide +kernel
theorem dX7_begins_2 : decode cX7_begins 2 = .ok (.invokestatic 207, 3) := by decide +kernel
theorem dX7_begins_5 : decode cX7_begins 5 = .ok (.iand, 1) := by decide +kernel
theorem dX7_begins_6 : decode cX7_begins 6 = .ok (.iload_n 1, 1) := by decide +kernel
theorem dX7_begins_7 : decode cX7_begins 7 = .ok (.if_icmp .ne 7, 3) := by decide +kernel
theorem dX7_begins_10 : decode cX7_begins 10 = .ok (.iconst 1, 1) := by decide +kernel
theorem dX7_begins_11 : decode cX7_begins 11 = .ok (.goto 4, 3) := by decide +kernel
theorem dX7_begins_14 : decode cX7_begins 14 = .ok (.iconst 0, 1) := by decide +kernel
theorem dX7_begins_15 : decode cX7_begins 15 = .ok (.ireturn, 1) := by decide +kernel
theorem dX7_mask_0 : decode cX7_mask 0 = .ok (.iload_n 0, 1) := by decide +kernel
theorem dX7_mask_1 : decode cX7_mask 1 = .ok (.ifCond .gt 7, 3) := by decide +kernel
theorem dX7_mask_4 : decode cX7_mask 4 = .ok (.iconst 0, 1) := by decide +kernel
theorem dX7_mask_5 : decode cX7_mask 5 = .ok (.goto 14, 3) := by decide +kernel
theorem dX7_mask_8 : decode cX7_mask 8 = .ok (.iconst (-1), 1) := by decide +kernel
theorem dX7_mask_9 : decode cX7_mask 9 = .ok (.bipush 32, 2) := by decide +kernel
theorem dX7_mask_11 : decode cX7_mask 11 = .ok (.iload_n 0, 1) := by decide +kernel
theorem dX7_mask_12 : decode cX7_mask 12 = .ok (.bipush 32, 2) := by decide +kernel
theorem dX7_mask_14 : decode cX7_mask 14 = .ok (.invokestatic 210, 3) := by decide +kernel
theorem dX7_mask_17 : decode cX7_mask 17 = .ok (.isub, 1) := by decide +kernel
theorem dX7_mask_18 : decode cX7_mask 18 = .ok (.ishl, 1) := by decide +kernel
theorem dX7_mask_19 : decode cX7_mask 19 = .ok (.ireturn, 1) := by decide +kernel
theorem dX7_bitAt_0 : decode cX7_bitAt 0 = .ok (.ldc 217, 2) := by decide +kernel
theorem dX7_bitAt_2 : decode cX7_bitAt 2 = .ok (.iload_n 0, 1) := by decide +kernel
theorem dX7_bitAt_3 : decode cX7_bitAt 3 = .ok (.iushr, 1) := by decide +kernel
theorem dX7_bitAt_4 : decode cX7_bitAt 4 = .ok (.ireturn, 1) := by decide +kernel
theorem dX7_wide_0 : decode cX7_wide 0 = .ok (.iload_n 0, 1) := by decide +kernel
theorem dX7_wide_1 : decode cX7_wide 1 = .ok (.i2l, 1) := by decide +kernel
theorem dX7_wide_2 : decode cX7_wide 2 = .ok (.ldc2_w 218, 3) := by decide +kernel
theorem dX7_wide_5 : decode cX7_wide 5 = .ok (.land, 1) := by decide +kernel
theorem dX7_wide_6 : decode cX7_wide 6 = .ok (.lreturn, 1) := by decide +kernel
theorem dX8_init_0 : decode cX8_init 0 = .ok (.aload_n 0, 1) := by decide +kernel
theorem dX8_init_1 : decode cX8_init 1 = .ok (.invokespecial 1, 3) := by decide +kernel
theorem dX8_init_4 : decode cX8_init 4 = .ok (.aload_n 0, 1) := by decide +kernel
theorem dX8_init_5 : decode cX8_init 5 = .ok (.bipush 6, 2) := by decide +kernel
theorem dX8_init_7 : decode cX8_init 7 = .ok (.newarray .int, 2) := by decide +kernel
theorem dX8_init_9 : decode cX8_init 9 = .ok (.putfield 7, 3) := by decide +kernel
theorem dX8_init_12 : decode cX8_init 12 = .ok (.aload_n 0, 1) := by decide +kernel
theorem dX8_init_13 : decode cX8_init 13 = .ok (.sipush 384, 3) := by decide +kernel
theorem dX8_init_16 : decode cX8_init 16 = .ok (.newarray .long, 2) := by decide +kernel
theorem dX8_init_18 : decode cX8_init 18 = .ok (.putfield 13, 3) := by decide +kernel
theorem dX8_init_21 : decode cX8_init 21 = .ok (.aload_n 0, 1) := by decide +kernel
theorem dX8_init_22 : decode cX8_init 22 = .ok (.sipush 384, 3) := by decide +kernel
theorem dX8_init_25 : decode cX8_init 25 = .ok (.newarray .int, 2) := by decide +kernel
theorem dX8_init_27 : decode cX8_init 27 = .ok (.putfield 17, 3) := by decide +kernel
theorem dX8_init_30 : decode cX8_init 30 = .ok (.aload_n 0, 1) := by decide +kernel
theorem dX8_init_31 : decode cX8_init 31 = .ok (.sipush 384, 3) := by decide +kernel
theorem dX8_init_34 : decode cX8_init 34 = .ok (.newarray .int, 2) := by decide +kernel
theorem dX8_init_36 : decode cX8_init 36 = .ok (.putfield 20, 3) := by decide +kernel
theorem dX8_init_39 : decode cX8_init 39 = .ok (.aload_n 0, 1) := by decide +kernel
theorem dX8_init_40 : decode cX8_init 40 = .ok (.sipush 600, 3) := by decide +kernel
theorem dX8_init_43 : decode cX8_init 43 = .ok (.newarray .long, 2) := by decide +kernel
theorem dX8_init_45 : decode cX8_init 45 = .ok (.putfield 23, 3) := by decide +kernel
theorem dX8_init_48 : decode cX8_init 48 = .ok (.aload_n 0, 1) := by decide +kernel
theorem dX8_init_49 : decode cX8_init 49 = .ok (.sipush 600, 3) := by decide +kernel
theorem dX8_init_52 : decode cX8_init 52 = .ok (.newarray .int, 2) := by decide +kernel
theorem dX8_init_54 : decode cX8_init 54 = .ok (.putfield 26, 3) := by decide +kernel
theorem dX8_init_57 : decode cX8_init 57 = .ok (.aload_n 0, 1) := by decide +kernel
theorem dX8_init_58 : decode cX8_init 58 = .ok (.bipush 33, 2) := by decide +kernel
theorem dX8_init_60 : decode cX8_init 60 = .ok (.newarray .int, 2) := by decide +kernel
theorem dX8_init_62 : decode cX8_init 62 = .ok (.putfield 29, 3) := by decide +kernel
theorem dX8_init_65 : decode cX8_init 65 = .ok (.aload_n 0, 1) := by decide +kernel
theorem dX8_init_66 : decode cX8_init 66 = .ok (.sipush 19800, 3) := by decide +kernel
theorem dX8_init_69 : decode cX8_init 69 = .ok (.newarray .long, 2) := by decide +kernel
theorem dX8_init_71 : decode cX8_init 71 = .ok (.putfield 32, 3) := by decide +kernel
theorem dX8_init_74 : decode cX8_init 74 = .ok (.aload_n 0, 1) := by decide +kernel
theorem dX8_init_75 : decode cX8_init 75 = .ok (.sipush 19800, 3) := by decide +kernel
theorem dX8_init_78 : decode cX8_init 78 = .ok (.newarray .int, 2) := by decide +kernel
theorem dX8_init_80 : decode cX8_init 80 = .ok (.putfield 35, 3) := by decide +kernel
theorem dX8_init_83 : decode cX8_init 83 = .ok (.aload_n 0, 1) := by decide +kernel
theorem dX8_init_84 : decode cX8_init 84 = .ok (.sipush 600, 3) := by decide +kernel
theorem dX8_init_87 : decode cX8_init 87 = .ok (.newarray .long, 2) := by decide +kernel
theorem dX8_init_89 : decode cX8_init 89 = .ok (.putfield 38, 3) := by decide +kernel
theorem dX8_init_92 : decode cX8_init 92 = .ok (.aload_n 0, 1) := by decide +kernel
theorem dX8_init_93 : decode cX8_init 93 = .ok (.sipush 600, 3) := by decide +kernel
theorem dX8_init_96 : decode cX8_init 96 = .ok (.newarray .int, 2) := by decide +kernel
theorem dX8_init_98 : decode cX8_init 98 = .ok (.putfield 41, 3) := by decide +kernel
theorem dX8_init_101 : decode cX8_init 101 = .ok (.aload_n 0, 1) := by decide +kernel
theorem dX8_init_102 : decode cX8_init 102 = .ok (.sipush 1200, 3) := by decide +kernel
theorem dX8_init_105 : decode cX8_init 105 = .ok (.newarray .long, 2) := by decide +kernel
theorem dX8_init_107 : decode cX8_init 107 = .ok (.putfield 44, 3) := by decide +kernel
theorem dX8_init_110 : decode cX8_init 110 = .ok (.aload_n 0, 1) := by decide +kernel
theorem dX8_init_111 : decode cX8_init 111 = .ok (.sipush 1200, 3) := by decide +kernel
theorem dX8_init_114 : decode cX8_init 114 = .ok (.newarray .int, 2) := by decide +kernel
theorem dX8_init_116 : decode cX8_init 116 = .ok (.putfield 47, 3) := by decide +kernel
theorem dX8_init_119 : decode cX8_init 119 = .ok (.aload_n 0, 1) := by decide +kernel
theorem dX8_init_120 : decode cX8_init 120 = .ok (.bipush 64, 2) := by decide +kernel
theorem dX8_init_122 : decode cX8_init 122 = .ok (.newarray .long, 2) := by decide +kernel
theorem dX8_init_124 : decode cX8_init 124 = .ok (.putfield 50, 3) := by decide +kernel
theorem dX8_init_127 : decode cX8_init 127 = .ok (.aload_n 0, 1) := by decide +kernel
theorem dX8_init_128 : decode cX8_init 128 = .ok (.bipush 64, 2) := by decide +kernel
theorem dX8_init_130 : decode cX8_init 130 = .ok (.newarray .int, 2) := by decide +kernel
theorem dX8_init_132 : decode cX8_init 132 = .ok (.putfield 53, 3) := by decide +kernel
theorem dX8_init_135 : decode cX8_init 135 = .ok (.aload_n 0, 1) := by decide +kernel
theorem dX8_init_136 : decode cX8_init 136 = .ok (.bipush 64, 2) := by decide +kernel
theorem dX8_init_138 : decode cX8_init 138 = .ok (.newarray .int, 2) := by decide +kernel
theorem dX8_init_140 : decode cX8_init 140 = .ok (.putfield 56, 3) := by decide +kernel
theorem dX8_init_143 : decode cX8_init 143 = .ok (.aload_n 0, 1) := by decide +kernel
theorem dX8_init_144 : decode cX8_init 144 = .ok (.bipush 64, 2) := by decide +kernel
theorem dX8_init_146 : decode cX8_init 146 = .ok (.newarray .long, 2) := by decide +kernel
theorem dX8_init_148 : decode cX8_init 148 = .ok (.putfield 59, 3) := by decide +kernel
theorem dX8_init_151 : decode cX8_init 151 = .ok (.aload_n 0, 1) := by decide +kernel
theorem dX8_init_152 : decode cX8_init 152 = .ok (.bipush 64, 2) := by decide +kernel
theorem dX8_init_154 : decode cX8_init 154 = .ok (.newarray .int, 2) := by decide +kernel
theorem dX8_init_156 : decode cX8_init 156 = .ok (.putfield 62, 3) := by decide +kernel
theorem dX8_init_159 : decode cX8_init 159 = .ok (.aload_n 0, 1) := by decide +kernel
theorem dX8_init_160 : decode cX8_init 160 = .ok (.sipush 128, 3) := by decide +kernel
theorem dX8_init_163 : decode cX8_init 163 = .ok (.newarray .int, 2) := by decide +kernel
theorem dX8_init_165 : decode cX8_init 165 = .ok (.putfield 65, 3) := by decide +kernel
theorem dX8_init_168 : decode cX8_init 168 = .ok (.aload_n 0, 1) := by decide +kernel
theorem dX8_init_169 : decode cX8_init 169 = .ok (.sipush 128, 3) := by decide +kernel
theorem dX8_init_172 : decode cX8_init 172 = .ok (.newarray .long, 2) := by decide +kernel
theorem dX8_init_174 : decode cX8_init 174 = .ok (.putfield 68, 3) := by decide +kernel
theorem dX8_init_177 : decode cX8_init 177 = .ok (.aload_n 0, 1) := by decide +kernel
theorem dX8_init_178 : decode cX8_init 178 = .ok (.sipush 128, 3) := by decide +kernel
theorem dX8_init_181 : decode cX8_init 181 = .ok (.newarray .int, 2) := by decide +kernel
theorem dX8_init_183 : decode cX8_init 183 = .ok (.putfield 71, 3) := by decide +kernel
theorem dX8_init_186 : decode cX8_init 186 = .ok (.aload_n 0, 1) := by decide +kernel
theorem dX8_init_187 : decode cX8_init 187 = .ok (.sipush 128, 3) := by decide +kernel
theorem dX8_init_190 : decode cX8_init 190 = .ok (.newarray .int, 2) := by decide +kernel
theorem dX8_init_192 : decode cX8_init 192 = .ok (.putfield 74, 3) := by decide +kernel
theorem dX8_init_195 : decode cX8_init 195 = .ok (.aload_n 0, 1) := by decide +kernel
theorem dX8_init_196 : decode cX8_init 196 = .ok (.bipush 64, 2) := by decide +kernel
theorem dX8_init_198 : decode cX8_init 198 = .ok (.newarray .long, 2) := by decide +kernel
theorem dX8_init_200 : decode cX8_init 200 = .ok (.putfield 77, 3) := by decide +kernel
theorem dX8_init_203 : decode cX8_init 203 = .ok (.aload_n 0, 1) := by decide +kernel
theorem dX8_init_204 : decode cX8_init 204 = .ok (.bipush 64, 2) := by decide +kernel
theorem dX8_init_206 : decode cX8_init 206 = .ok (.newarray .int, 2) := by decide +kernel
theorem dX8_init_208 : decode cX8_init 208 = .ok (.putfield 80, 3) := by decide +kernel
theorem dX8_init_211 : decode cX8_init 211 = .ok (.aload_n 0, 1) := by decide +kernel
theorem dX8_init_212 : decode cX8_init 212 = .ok (.bipush 64, 2) := by decide +kernel
theorem dX8_init_214 : decode cX8_init 214 = .ok (.newarray .int, 2) := by decide +kernel
theorem dX8_init_216 : decode cX8_init 216 = .ok (.putfield 83, 3) := by decide +kernel
theorem dX8_init_219 : decode cX8_init 219 = .ok (.aload_n 0, 1) := by decide +kernel
theorem dX8_init_220 : decode cX8_init 220 = .ok (.sipush 2200, 3) := by decide +kernel
theorem dX8_init_223 : decode cX8_init 223 = .ok (.newarray .long, 2) := by decide +kernel
theorem dX8_init_225 : decode cX8_init 225 = .ok (.putfield 86, 3) := by decide +kernel
theorem dX8_init_228 : decode cX8_init 228 = .ok (.aload_n 0, 1) := by decide +kernel
theorem dX8_init_229 : decode cX8_init 229 = .ok (.sipush 2200, 3) := by decide +kernel
theorem dX8_init_232 : decode cX8_init 232 = .ok (.newarray .int, 2) := by decide +kernel
theorem dX8_init_234 : decode cX8_init 234 = .ok (.putfield 89, 3) := by decide +kernel
theorem dX8_init_237 : decode cX8_init 237 = .ok (.return_, 1) := by decide +kernel
theorem dX8_lies_0 : decode cX8_lies 0 = .ok (.iload_n 0, 1) := by decide +kernel
theorem dX8_lies_1 : decode cX8_lies 1 = .ok (.iload_n 1, 1) := by decide +kernel
theorem dX8_lies_2 : decode cX8_lies 2 = .ok (.if_icmp .lt 12, 3) := by decide +kernel
theorem dX8_lies_5 : decode cX8_lies 5 = .ok (.iload_n 0, 1) := by decide +kernel
theorem dX8_lies_6 : decode cX8_lies 6 = .ok (.iload_n 2, 1) := by decide +kernel
theorem dX8_lies_7 : decode cX8_lies 7 = .ok (.if_icmp .gt 7, 3) := by decide +kernel
theorem dX8_lies_10 : decode cX8_lies 10 = .ok (.iconst 1, 1) := by decide +kernel
theorem dX8_lies_11 : decode cX8_lies 11 = .ok (.goto 4, 3) := by decide +kernel
theorem dX8_lies_14 : decode cX8_lies 14 = .ok (.iconst 0, 1) := by decide +kernel
theorem dX8_lies_15 : decode cX8_lies 15 = .ok (.ireturn, 1) := by decide +kernel
set_option maxRecDepth 20000 in
theorem ggX8_isBook_X8_lies : GoodIn wsX8_isBook wsX8_lies := goodIn_r _ [4] (by decide +kernel) (by decide +kernel)
set_option maxRecDepth 20000 in
theorem gX8_isBook_X8_lies : GoodIn wsX8_isBook (va_wsS RX8 92 yX8_lies wsX8_lies) := goodIn_app (goodIn_of _ (by decide +kernel)) ggX8_isBook_X8_lies
theorem dX8_isBook_0 : decode cX8_isBook 0 = .ok (.iload_n 0, 1) := by decide +kernel
theorem dX8_isBook_1 : decode cX8_isBook 1 = .ok (.iconst 0, 1) := by decide +kernel
theorem dX8_isBook_2 : decode cX8_isBook 2 = .ok (.iconst 5, 1) := by decide +kernel
theorem dX8_isBook_3 : decode cX8_isBook 3 = .ok (.invokestatic 92, 3) := by decide +kernel
theorem dX8_isBook_6 : decode cX8_isBook 6 = .ok (.ireturn, 1) := by decide +kernel
theorem dX8_number_0 : decode cX8_number 0 = .ok (.iload_n 0, 1) := by decide +kernel
theorem dX8_number_1 : decode cX8_number 1 = .ok (.i2l, 1) := by decide +kernel
theorem dX8_number_2 : decode cX8_number 2 = .ok (.ldc2_w 96, 3) := by decide +kernel
theorem dX8_number_5 : decode cX8_number 5 = .ok (.land, 1) := by decide +kernel
theorem dX8_number_6 : decode cX8_number 6 = .ok (.lreturn, 1) := by decide +kernel
theorem dX8_size_0 : decode cX8_size 0 = .ok (.lconst 1, 1) := by decide +kernel
theorem dX8_size_1 : decode cX8_size 1 = .ok (.bipush 32, 2) := by decide +kernel
theorem dX8_size_3 : decode cX8_size 3 = .ok (.iload_n 0, 1) := by decide +kernel
theorem dX8_size_4 : decode cX8_size 4 = .ok (.isub, 1) := by decide +kernel
theorem dX8_size_5 : decode cX8_size 5 = .ok (.lshl, 1) := by decide +kernel
theorem dX8_size_6 : decode cX8_size 6 = .ok (.lreturn, 1) := by decide +kernel
set_option maxRecDepth 20000 in
theorem ggX8_isBeginning_X8_lies : GoodIn wsX8_isBeginning wsX8_lies := goodIn_r _ [4] (by decide +kernel) (by decide +kernel)
set_option maxRecDepth 20000 in
theorem gX8_isBeginning_X8_lies : GoodIn wsX8_isBeginning (va_wsS RX8 92 yX8_lies wsX8_lies) := goodIn_app (goodIn_of _ (by decide +kernel)) ggX8_isBeginning_X8_lies
set_option maxRecDepth 20000 in
theorem ggX8_isBeginning_X8_number : GoodIn wsX8_isBeginning wsX8_number := goodIn_r _ [7, 8] (by decide +kernel) (by decide +kernel)
set_option maxRecDepth 20000 in
theorem gX8_isBeginning_X8_number : GoodIn wsX8_isBeginning (va_wsS RX8 98 yX8_number wsX8_number) := goodIn_app (goodIn_of _ (by decide +kernel)) ggX8_isBeginning_X8_number
set_option maxRecDepth 20000 in
theorem ggX8_isBeginning_X8_size : GoodIn wsX8_isBeginning wsX8_size := goodIn_r _ [11] (by decide +kernel) (by decide +kernel)
set_option maxRecDepth 20000 in
theorem gX8_isBeginning_X8_size : GoodIn wsX8_isBeginning (va_wsS RX8 102 yX8_size wsX8_size) := goodIn_app (goodIn_of _ (by decide +kernel)) ggX8_isBeginning_X8_size
theorem dX8_isBeginning_0 : decode cX8_isBeginning 0 = .ok (.iload_n 1, 1) := by decide +kernel
theorem dX8_isBeginning_1 : decode cX8_isBeginning 1 = .ok (.iconst 0, 1) := by decide +kernel
theorem dX8_isBeginning_2 : decode cX8_isBeginning 2 = .ok (.bipush 32, 2) := by decide +kernel
theorem dX8_isBeginning_4 : decode cX8_isBeginning 4 = .ok (.invokestatic 92, 3) := by decide +kernel
theorem dX8_isBeginning_7 : decode cX8_isBeginning 7 = .ok (.ifCond .eq 21, 3) := by decide +kernel
theorem dX8_isBeginning_10 : decode cX8_isBeginning 10 = .ok (.iload_n 0, 1) := by decide +kernel
theorem dX8_isBeginning_11 : decode cX8_isBeginning 11 = .ok (.invokestatic 98, 3) := by decide +kernel
theorem dX8_isBeginning_14 : decode cX8_isBeginning 14 = .ok (.iload_n 1, 1) := by decide +kernel
theorem dX8_isBeginning_15 : decode cX8_isBeginning 15 = .ok (.invokestatic 102, 3) := by decide +kernel
theorem dX8_isBeginning_18 : decode cX8_isBeginning 18 = .ok (.lrem, 1) := by decide +kernel
theorem dX8_isBeginning_19 : decode cX8_isBeginning 19 = .ok (.lconst 0, 1) := by decide +kernel
theorem dX8_isBeginning_20 : decode cX8_isBeginning 20 = .ok (.lcmp, 1) := by decide +kernel
theorem dX8_isBeginning_21 : decode cX8_isBeginning 21 = .ok (.ifCond .ne 7, 3) := by decide +kernel
theorem dX8_isBeginning_24 : decode cX8_isBeginning 24 = .ok (.iconst 1, 1) := by decide +kernel
theorem dX8_isBeginning_25 : decode cX8_isBeginning 25 = .ok (.goto 4, 3) := by decide +kernel
theorem dX8_isBeginning_28 : decode cX8_isBeginning 28 = .ok (.iconst 0, 1) := by decide +kernel
theorem dX8_isBeginning_29 : decode cX8_isBeginning 29 = .ok (.ireturn, 1) := by decide +kernel
set_option maxRecDepth 20000 in
theorem ggX8_begins_X8_size : GoodIn wsX8_begins wsX8_size := goodIn_r _ [4] (by decide +kernel) (by decide +kernel)
set_option maxRecDepth 20000 in
theorem gX8_begins_X8_size : GoodIn wsX8_begins (va_wsS RX8 102 yX8_size wsX8_size) := goodIn_app (goodIn_of _ (by decide +kernel)) ggX8_begins_X8_size
theorem dX8_begins_0 : decode cX8_begins 0 = .ok (.lload_n 0, 1) := by decide +kernel
theorem dX8_begins_1 : decode cX8_begins 1 = .ok (.iload 4, 2) := by decide +kernel
theorem dX8_begins_3 : decode cX8_begins 3 = .ok (.invokestatic 102, 3) := by decide +kernel
theorem dX8_begins_6 : decode cX8_begins 6 = .ok (.ldiv, 1) := by decide +kernel
theorem dX8_begins_7 : decode cX8_begins 7 = .ok (.lload_n 2, 1) := by decide +kernel
theorem dX8_begins_8 : decode cX8_begins 8 = .ok (.iload 4, 2) := by decide +kernel
theorem dX8_begins_10 : decode cX8_begins 10 = .ok (.invokestatic 102, 3) := by decide +kernel
theorem dX8_begins_13 : decode cX8_begins 13 = .ok (.ldiv, 1) := by decide +kernel
theorem dX8_begins_14 : decode cX8_begins 14 = .ok (.lcmp, 1) := by decide +kernel
theorem dX8_begins_15 : decode cX8_begins 15 = .ok (.ifCond .ne 7, 3) := by decide +kernel
theorem dX8_begins_18 : decode cX8_begins 18 = .ok (.iconst 1, 1) := by decide +kernel
theorem dX8_begins_19 : decode cX8_begins 19 = .ok (.goto 4, 3) := by decide +kernel
theorem dX8_begins_22 : decode cX8_begins 22 = .ok (.iconst 0, 1) := by decide +kernel
theorem dX8_begins_23 : decode cX8_begins 23 = .ok (.ireturn, 1) := by decide +kernel
theorem dX8_at_0 : decode cX8_at 0 = .ok (.iconst 0, 1) := by decide +kernel
theorem dX8_at_1 : decode cX8_at 1 = .ok (.istore 5, 2) := by decide +kernel
theorem dX8_at_3 : decode cX8_at 3 = .ok (.iload 5, 2) := by decide +kernel
theorem dX8_at_5 : decode cX8_at 5 = .ok (.aload_n 0, 1) := by decide +kernel
theorem dX8_at_6 : decode cX8_at 6 = .ok (.getfield 7, 3) := by decide +kernel
theorem dX8_at_9 : decode cX8_at 9 = .ok (.iload_n 1, 1) := by decide +kernel
theorem dX8_at_10 : decode cX8_at 10 = .ok (.iaload, 1) := by decide +kernel
theorem dX8_at_11 : decode cX8_at 11 = .ok (.if_icmp .ge 46, 3) := by decide +kernel
theorem dX8_at_14 : decode cX8_at 14 = .ok (.aload_n 0, 1) := by decide +kernel
theorem dX8_at_15 : decode cX8_at 15 = .ok (.getfield 13, 3) := by decide +kernel
theorem dX8_at_18 : decode cX8_at 18 = .ok (.bipush 64, 2) := by decide +kernel
theorem dX8_at_20 : decode cX8_at 20 = .ok (.iload_n 1, 1) := by decide +kernel
theorem dX8_at_21 : decode cX8_at 21 = .ok (.imul, 1) := by decide +kernel
theorem dX8_at_22 : decode cX8_at 22 = .ok (.iload 5, 2) := by decide +kernel
theorem dX8_at_24 : decode cX8_at 24 = .ok (.iadd, 1) := by decide +kernel
theorem dX8_at_25 : decode cX8_at 25 = .ok (.laload, 1) := by decide +kernel
theorem dX8_at_26 : decode cX8_at 26 = .ok (.lload_n 2, 1) := by decide +kernel
theorem dX8_at_27 : decode cX8_at 27 = .ok (.lcmp, 1) := by decide +kernel
theorem dX8_at_28 : decode cX8_at 28 = .ok (.ifCond .ne 23, 3) := by decide +kernel
theorem dX8_at_31 : decode cX8_at 31 = .ok (.aload_n 0, 1) := by decide +kernel
theorem dX8_at_32 : decode cX8_at 32 = .ok (.getfield 17, 3) := by decide +kernel
theorem dX8_at_35 : decode cX8_at 35 = .ok (.bipush 64, 2) := by decide +kernel
theorem dX8_at_37 : decode cX8_at 37 = .ok (.iload_n 1, 1) := by decide +kernel
theorem dX8_at_38 : decode cX8_at 38 = .ok (.imul, 1) := by decide +kernel
theorem dX8_at_39 : decode cX8_at 39 = .ok (.iload 5, 2) := by decide +kernel
theorem dX8_at_41 : decode cX8_at 41 = .ok (.iadd, 1) := by decide +kernel
theorem dX8_at_42 : decode cX8_at 42 = .ok (.iaload, 1) := by decide +kernel
theorem dX8_at_43 : decode cX8_at 43 = .ok (.iload 4, 2) := by decide +kernel
theorem dX8_at_45 : decode cX8_at 45 = .ok (.if_icmp .ne 6, 3) := by decide +kernel
theorem dX8_at_48 : decode cX8_at 48 = .ok (.iload 5, 2) := by decide +kernel
theorem dX8_at_50 : decode cX8_at 50 = .ok (.ireturn, 1) := by decide +kernel
theorem dX8_at_51 : decode cX8_at 51 = .ok (.iinc 5 1, 3) := by decide +kernel
theorem dX8_at_54 : decode cX8_at 54 = .ok (.goto (-51), 3) := by decide +kernel
theorem dX8_at_57 : decode cX8_at 57 = .ok (.iconst (-1), 1) := by decide +kernel
theorem dX8_at_58 : decode cX8_at 58 = .ok (.ireturn, 1) := by decide +kernel
theorem dX8_moves_0 : decode cX8_moves 0 = .ok (.aload_n 0, 1) := by decide +kernel
theorem dX8_moves_1 : decode cX8_moves 1 = .ok (.getfield 13, 3) := by decide +kernel
theorem dX8_moves_4 : decode cX8_moves 4 = .ok (.bipush 64, 2) := by decide +kernel
theorem dX8_moves_6 : decode cX8_moves 6 = .ok (.iload_n 1, 1) := by decide +kernel
theorem dX8_moves_7 : decode cX8_moves 7 = .ok (.imul, 1) := by decide +kernel
theorem dX8_moves_8 : decode cX8_moves 8 = .ok (.iload_n 3, 1) := by decide +kernel
theorem dX8_moves_9 : decode cX8_moves 9 = .ok (.iadd, 1) := by decide +kernel
theorem dX8_moves_10 : decode cX8_moves 10 = .ok (.aload_n 0, 1) := by decide +kernel
theorem dX8_moves_11 : decode cX8_moves 11 = .ok (.getfield 13, 3) := by decide +kernel
theorem dX8_moves_14 : decode cX8_moves 14 = .ok (.bipush 64, 2) := by decide +kernel
theorem dX8_moves_16 : decode cX8_moves 16 = .ok (.iload_n 1, 1) := by decide +kernel
theorem dX8_moves_17 : decode cX8_moves 17 = .ok (.imul, 1) := by decide +kernel
theorem dX8_moves_18 : decode cX8_moves 18 = .ok (.iload_n 2, 1) := by decide +kernel
theorem dX8_moves_19 : decode cX8_moves 19 = .ok (.iadd, 1) := by decide +kernel
theorem dX8_moves_20 : decode cX8_moves 20 = .ok (.laload, 1) := by decide +kernel
theorem dX8_moves_21 : decode cX8_moves 21 = .ok (.lastore, 1) := by decide +kernel
theorem dX8_moves_22 : decode cX8_moves 22 = .ok (.aload_n 0, 1) := by decide +kernel
theorem dX8_moves_23 : decode cX8_moves 23 = .ok (.getfield 17, 3) := by decide +kernel
theorem dX8_moves_26 : decode cX8_moves 26 = .ok (.bipush 64, 2) := by decide +kernel
theorem dX8_moves_28 : decode cX8_moves 28 = .ok (.iload_n 1, 1) := by decide +kernel
theorem dX8_moves_29 : decode cX8_moves 29 = .ok (.imul, 1) := by decide +kernel
theorem dX8_moves_30 : decode cX8_moves 30 = .ok (.iload_n 3, 1) := by decide +kernel
theorem dX8_moves_31 : decode cX8_moves 31 = .ok (.iadd, 1) := by decide +kernel
theorem dX8_moves_32 : decode cX8_moves 32 = .ok (.aload_n 0, 1) := by decide +kernel
theorem dX8_moves_33 : decode cX8_moves 33 = .ok (.getfield 17, 3) := by decide +kernel
theorem dX8_moves_36 : decode cX8_moves 36 = .ok (.bipush 64, 2) := by decide +kernel
theorem dX8_moves_38 : decode cX8_moves 38 = .ok (.iload_n 1, 1) := by decide +kernel
theorem dX8_moves_39 : decode cX8_moves 39 = .ok (.imul, 1) := by decide +kernel
theorem dX8_moves_40 : decode cX8_moves 40 = .ok (.iload_n 2, 1) := by decide +kernel
theorem dX8_moves_41 : decode cX8_moves 41 = .ok (.iadd, 1) := by decide +kernel
theorem dX8_moves_42 : decode cX8_moves 42 = .ok (.iaload, 1) := by decide +kernel
theorem dX8_moves_43 : decode cX8_moves 43 = .ok (.iastore, 1) := by decide +kernel
theorem dX8_moves_44 : decode cX8_moves 44 = .ok (.aload_n 0, 1) := by decide +kernel
theorem dX8_moves_45 : decode cX8_moves 45 = .ok (.getfield 20, 3) := by decide +kernel
theorem dX8_moves_48 : decode cX8_moves 48 = .ok (.bipush 64, 2) := by decide +kernel
theorem dX8_moves_50 : decode cX8_moves 50 = .ok (.iload_n 1, 1) := by decide +kernel
theorem dX8_moves_51 : decode cX8_moves 51 = .ok (.imul, 1) := by decide +kernel
theorem dX8_moves_52 : decode cX8_moves 52 = .ok (.iload_n 3, 1) := by decide +kernel
theorem dX8_moves_53 : decode cX8_moves 53 = .ok (.iadd, 1) := by decide +kernel
theorem dX8_moves_54 : decode cX8_moves 54 = .ok (.aload_n 0, 1) := by decide +kernel
theorem dX8_moves_55 : decode cX8_moves 55 = .ok (.getfield 20, 3) := by decide +kernel
theorem dX8_moves_58 : decode cX8_moves 58 = .ok (.bipush 64, 2) := by decide +kernel
theorem dX8_moves_60 : decode cX8_moves 60 = .ok (.iload_n 1, 1) := by decide +kernel
theorem dX8_moves_61 : decode cX8_moves 61 = .ok (.imul, 1) := by decide +kernel
theorem dX8_moves_62 : decode cX8_moves 62 = .ok (.iload_n 2, 1) := by decide +kernel
theorem dX8_moves_63 : decode cX8_moves 63 = .ok (.iadd, 1) := by decide +kernel
theorem dX8_moves_64 : decode cX8_moves 64 = .ok (.iaload, 1) := by decide +kernel
theorem dX8_moves_65 : decode cX8_moves 65 = .ok (.iastore, 1) := by decide +kernel
theorem dX8_moves_66 : decode cX8_moves 66 = .ok (.return_, 1) := by decide +kernel
set_option maxRecDepth 20000 in
theorem ggX8_comes_X8_moves : GoodIn wsX8_comes wsX8_moves := goodIn_r _ [9, 2, 3, 4, 10, 11, 12, 13, 14, 15, 16, 17, 18, 19, 20, 21, 22, 23, 24, 25, 26, 27, 28, 29, 30, 31, 32, 33, 34, 35, 36, 37, 38, 39, 40, 41, 42, 43] (by decide +kernel) (by decide +kernel)
set_option maxRecDepth 20000 in
theorem gX8_comes_X8_moves : GoodIn wsX8_comes (wsV RX8 105 RX8 yX8_moves wsX8_moves) := goodIn_app (goodIn_of _ (by decide +kernel)) ggX8_comes_X8_moves
theorem dX8_comes_0 : decode cX8_comes 0 = .ok (.aload_n 0, 1) := by decide +kernel
theorem dX8_comes_1 : decode cX8_comes 1 = .ok (.getfield 7, 3) := by decide +kernel
theorem dX8_comes_4 : decode cX8_comes 4 = .ok (.iload_n 1, 1) := by decide +kernel
theorem dX8_comes_5 : decode cX8_comes 5 = .ok (.iaload, 1) := by decide +kernel
theorem dX8_comes_6 : decode cX8_comes 6 = .ok (.istore 6, 2) := by decide +kernel
theorem dX8_comes_8 : decode cX8_comes 8 = .ok (.iload 6, 2) := by decide +kernel
theorem dX8_comes_10 : decode cX8_comes 10 = .ok (.ifCond .le 77, 3) := by decide +kernel
theorem dX8_comes_13 : decode cX8_comes 13 = .ok (.aload_n 0, 1) := by decide +kernel
theorem dX8_comes_14 : decode cX8_comes 14 = .ok (.getfield 13, 3) := by decide +kernel
theorem dX8_comes_17 : decode cX8_comes 17 = .ok (.bipush 64, 2) := by decide +kernel
theorem dX8_comes_19 : decode cX8_comes 19 = .ok (.iload_n 1, 1) := by decide +kernel
theorem dX8_comes_20 : decode cX8_comes 20 = .ok (.imul, 1) := by decide +kernel
theorem dX8_comes_21 : decode cX8_comes 21 = .ok (.iload 6, 2) := by decide +kernel
theorem dX8_comes_23 : decode cX8_comes 23 = .ok (.iadd, 1) := by decide +kernel
theorem dX8_comes_24 : decode cX8_comes 24 = .ok (.iconst 1, 1) := by decide +kernel
theorem dX8_comes_25 : decode cX8_comes 25 = .ok (.isub, 1) := by decide +kernel
theorem dX8_comes_26 : decode cX8_comes 26 = .ok (.laload, 1) := by decide +kernel
theorem dX8_comes_27 : decode cX8_comes 27 = .ok (.lload_n 2, 1) := by decide +kernel
theorem dX8_comes_28 : decode cX8_comes 28 = .ok (.lcmp, 1) := by decide +kernel
theorem dX8_comes_29 : decode cX8_comes 29 = .ok (.ifCond .gt 41, 3) := by decide +kernel
theorem dX8_comes_32 : decode cX8_comes 32 = .ok (.aload_n 0, 1) := by decide +kernel
theorem dX8_comes_33 : decode cX8_comes 33 = .ok (.getfield 13, 3) := by decide +kernel
theorem dX8_comes_36 : decode cX8_comes 36 = .ok (.bipush 64, 2) := by decide +kernel
theorem dX8_comes_38 : decode cX8_comes 38 = .ok (.iload_n 1, 1) := by decide +kernel
theorem dX8_comes_39 : decode cX8_comes 39 = .ok (.imul, 1) := by decide +kernel
theorem dX8_comes_40 : decode cX8_comes 40 = .ok (.iload 6, 2) := by decide +kernel
theorem dX8_comes_42 : decode cX8_comes 42 = .ok (.iadd, 1) := by decide +kernel
theorem dX8_comes_43 : decode cX8_comes 43 = .ok (.iconst 1, 1) := by decide +kernel
theorem dX8_comes_44 : decode cX8_comes 44 = .ok (.isub, 1) := by decide +kernel
theorem dX8_comes_45 : decode cX8_comes 45 = .ok (.laload, 1) := by decide +kernel
theorem dX8_comes_46 : decode cX8_comes 46 = .ok (.lload_n 2, 1) := by decide +kernel
theorem dX8_comes_47 : decode cX8_comes 47 = .ok (.lcmp, 1) := by decide +kernel
theorem dX8_comes_48 : decode cX8_comes 48 = .ok (.ifCond .ne 39, 3) := by decide +kernel
theorem dX8_comes_51 : decode cX8_comes 51 = .ok (.aload_n 0, 1) := by decide +kernel
theorem dX8_comes_52 : decode cX8_comes 52 = .ok (.getfield 17, 3) := by decide +kernel
theorem dX8_comes_55 : decode cX8_comes 55 = .ok (.bipush 64, 2) := by decide +kernel
theorem dX8_comes_57 : decode cX8_comes 57 = .ok (.iload_n 1, 1) := by decide +kernel
theorem dX8_comes_58 : decode cX8_comes 58 = .ok (.imul, 1) := by decide +kernel
theorem dX8_comes_59 : decode cX8_comes 59 = .ok (.iload 6, 2) := by decide +kernel
theorem dX8_comes_61 : decode cX8_comes 61 = .ok (.iadd, 1) := by decide +kernel
theorem dX8_comes_62 : decode cX8_comes 62 = .ok (.iconst 1, 1) := by decide +kernel
theorem dX8_comes_63 : decode cX8_comes 63 = .ok (.isub, 1) := by decide +kernel
theorem dX8_comes_64 : decode cX8_comes 64 = .ok (.iaload, 1) := by decide +kernel
theorem dX8_comes_65 : decode cX8_comes 65 = .ok (.iload 4, 2) := by decide +kernel
theorem dX8_comes_67 : decode cX8_comes 67 = .ok (.if_icmp .le 20, 3) := by decide +kernel
theorem dX8_comes_70 : decode cX8_comes 70 = .ok (.aload_n 0, 1) := by decide +kernel
theorem dX8_comes_71 : decode cX8_comes 71 = .ok (.iload_n 1, 1) := by decide +kernel
theorem dX8_comes_72 : decode cX8_comes 72 = .ok (.iload 6, 2) := by decide +kernel
theorem dX8_comes_74 : decode cX8_comes 74 = .ok (.iconst 1, 1) := by decide +kernel
theorem dX8_comes_75 : decode cX8_comes 75 = .ok (.isub, 1) := by decide +kernel
theorem dX8_comes_76 : decode cX8_comes 76 = .ok (.iload 6, 2) := by decide +kernel
theorem dX8_comes_78 : decode cX8_comes 78 = .ok (.invokevirtual 105, 3) := by decide +kernel
theorem dX8_comes_81 : decode cX8_comes 81 = .ok (.iinc 6 (-1), 3) := by decide +kernel
theorem dX8_comes_84 : decode cX8_comes 84 = .ok (.goto (-76), 3) := by decide +kernel
theorem dX8_comes_87 : decode cX8_comes 87 = .ok (.aload_n 0, 1) := by decide +kernel
theorem dX8_comes_88 : decode cX8_comes 88 = .ok (.getfield 13, 3) := by decide +kernel
theorem dX8_comes_91 : decode cX8_comes 91 = .ok (.bipush 64, 2) := by decide +kernel
theorem dX8_comes_93 : decode cX8_comes 93 = .ok (.iload_n 1, 1) := by decide +kernel
theorem dX8_comes_94 : decode cX8_comes 94 = .ok (.imul, 1) := by decide +kernel
theorem dX8_comes_95 : decode cX8_comes 95 = .ok (.iload 6, 2) := by decide +kernel
theorem dX8_comes_97 : decode cX8_comes 97 = .ok (.iadd, 1) := by decide +kernel
theorem dX8_comes_98 : decode cX8_comes 98 = .ok (.lload_n 2, 1) := by decide +kernel
theorem dX8_comes_99 : decode cX8_comes 99 = .ok (.lastore, 1) := by decide +kernel
theorem dX8_comes_100 : decode cX8_comes 100 = .ok (.aload_n 0, 1) := by decide +kernel
theorem dX8_comes_101 : decode cX8_comes 101 = .ok (.getfield 17, 3) := by decide +kernel
theorem dX8_comes_104 : decode cX8_comes 104 = .ok (.bipush 64, 2) := by decide +kernel
theorem dX8_comes_106 : decode cX8_comes 106 = .ok (.iload_n 1, 1) := by decide +kernel
theorem dX8_comes_107 : decode cX8_comes 107 = .ok (.imul, 1) := by decide +kernel
theorem dX8_comes_108 : decode cX8_comes 108 = .ok (.iload 6, 2) := by decide +kernel
theorem dX8_comes_110 : decode cX8_comes 110 = .ok (.iadd, 1) := by decide +kernel
theorem dX8_comes_111 : decode cX8_comes 111 = .ok (.iload 4, 2) := by decide +kernel
theorem dX8_comes_113 : decode cX8_comes 113 = .ok (.iastore, 1) := by decide +kernel
theorem dX8_comes_114 : decode cX8_comes 114 = .ok (.aload_n 0, 1) := by decide +kernel
theorem dX8_comes_115 : decode cX8_comes 115 = .ok (.getfield 20, 3) := by decide +kernel
theorem dX8_comes_118 : decode cX8_comes 118 = .ok (.bipush 64, 2) := by decide +kernel
theorem dX8_comes_120 : decode cX8_comes 120 = .ok (.iload_n 1, 1) := by decide +kernel
theorem dX8_comes_121 : decode cX8_comes 121 = .ok (.imul, 1) := by decide +kernel
theorem dX8_comes_122 : decode cX8_comes 122 = .ok (.iload 6, 2) := by decide +kernel
theorem dX8_comes_124 : decode cX8_comes 124 = .ok (.iadd, 1) := by decide +kernel
theorem dX8_comes_125 : decode cX8_comes 125 = .ok (.iload 5, 2) := by decide +kernel
theorem dX8_comes_127 : decode cX8_comes 127 = .ok (.iastore, 1) := by decide +kernel
theorem dX8_comes_128 : decode cX8_comes 128 = .ok (.aload_n 0, 1) := by decide +kernel
theorem dX8_comes_129 : decode cX8_comes 129 = .ok (.getfield 7, 3) := by decide +kernel
theorem dX8_comes_132 : decode cX8_comes 132 = .ok (.iload_n 1, 1) := by decide +kernel
theorem dX8_comes_133 : decode cX8_comes 133 = .ok (.dup2, 1) := by decide +kernel
theorem dX8_comes_134 : decode cX8_comes 134 = .ok (.iaload, 1) := by decide +kernel
theorem dX8_comes_135 : decode cX8_comes 135 = .ok (.iconst 1, 1) := by decide +kernel
theorem dX8_comes_136 : decode cX8_comes 136 = .ok (.iadd, 1) := by decide +kernel
theorem dX8_comes_137 : decode cX8_comes 137 = .ok (.iastore, 1) := by decide +kernel
theorem dX8_comes_138 : decode cX8_comes 138 = .ok (.return_, 1) := by decide +kernel
set_option maxRecDepth 20000 in
theorem ggX8_put_X8_isBook : GoodIn wsX8_put wsX8_isBook := goodIn_r _ [6, 7, 8, 5, 9] (by decide +kernel) (by decide +kernel)
set_option maxRecDepth 20000 in
theorem gX8_put_X8_isBook : GoodIn wsX8_put (va_wsS RX8 109 yX8_isBook wsX8_isBook) := goodIn_app (goodIn_of _ (by decide +kernel)) ggX8_put_X8_isBook
set_option maxRecDepth 20000 in
theorem ggX8_put_X8_isBeginning : GoodIn wsX8_put wsX8_isBeginning := goodIn_r _ [12, 7, 8, 5, 9, 13, 14, 15, 16, 17, 18, 19] (by decide +kernel) (by decide +kernel)
set_option maxRecDepth 20000 in
theorem gX8_put_X8_isBeginning : GoodIn wsX8_put (va_wsS RX8 113 yX8_isBeginning wsX8_isBeginning) := goodIn_app (goodIn_of _ (by decide +kernel)) ggX8_put_X8_isBeginning
set_option maxRecDepth 20000 in
theorem ggX8_put_X8_lies : GoodIn wsX8_put wsX8_lies := goodIn_r _ [9] (by decide +kernel) (by decide +kernel)
set_option maxRecDepth 20000 in
theorem gX8_put_X8_lies : GoodIn wsX8_put (va_wsS RX8 92 yX8_lies wsX8_lies) := goodIn_app (goodIn_of _ (by decide +kernel)) ggX8_put_X8_lies
set_option maxRecDepth 20000 in
theorem ggX8_put_X8_number : GoodIn wsX8_put wsX8_number := goodIn_r _ [15, 16] (by decide +kernel) (by decide +kernel)
set_option maxRecDepth 20000 in
theorem gX8_put_X8_number : GoodIn wsX8_put (va_wsS RX8 98 yX8_number wsX8_number) := goodIn_app (goodIn_of _ (by decide +kernel)) ggX8_put_X8_number
set_option maxRecDepth 20000 in
theorem ggX8_put_X8_at : GoodIn wsX8_put wsX8_at := goodIn_r _ [23, 2, 24, 25, 34, 35, 36, 37, 38, 39, 40, 41, 42, 43, 44, 45, 46, 47, 48, 49, 50, 51, 52, 53, 54, 55, 56, 57, 58, 59, 60, 61, 62, 63, 64, 65, 66, 67] (by decide +kernel) (by decide +kernel)
set_option maxRecDepth 20000 in
theorem gX8_put_X8_at : GoodIn wsX8_put (wsV RX8 117 RX8 yX8_at wsX8_at) := goodIn_app (goodIn_of _ (by decide +kernel)) ggX8_put_X8_at
set_option maxRecDepth 20000 in
theorem ggX8_put_X8_comes : GoodIn wsX8_put wsX8_comes := goodIn_r _ [29, 2, 24, 25, 1, 30, 31, 32, 5, 33, 34, 35, 36, 37, 38, 39, 40, 41, 42, 43, 44, 45, 46, 47, 48, 49, 50, 51, 52, 53, 54, 55, 56, 57, 58, 59, 60, 61, 62, 63, 64, 65, 66, 67] (by decide +kernel) (by decide +kernel)
set_option maxRecDepth 20000 in
theorem gX8_put_X8_comes : GoodIn wsX8_put (wsV RX8 121 RX8 yX8_comes wsX8_comes) := goodIn_app (goodIn_of _ (by decide +kernel)) ggX8_put_X8_comes
theorem dX8_put_0 : decode cX8_put 0 = .ok (.iload_n 1, 1) := by decide +kernel
theorem dX8_put_1 : decode cX8_put 1 = .ok (.invokestatic 109, 3) := by decide +kernel
theorem dX8_put_4 : decode cX8_put 4 = .ok (.ifCond .eq 22, 3) := by decide +kernel
theorem dX8_put_7 : decode cX8_put 7 = .ok (.iload_n 2, 1) := by decide +kernel
theorem dX8_put_8 : decode cX8_put 8 = .ok (.iload_n 3, 1) := by decide +kernel
theorem dX8_put_9 : decode cX8_put 9 = .ok (.invokestatic 113, 3) := by decide +kernel
theorem dX8_put_12 : decode cX8_put 12 = .ok (.ifCond .eq 14, 3) := by decide +kernel
theorem dX8_put_15 : decode cX8_put 15 = .ok (.iload 4, 2) := by decide +kernel
theorem dX8_put_17 : decode cX8_put 17 = .ok (.iconst 0, 1) := by decide +kernel
theorem dX8_put_18 : decode cX8_put 18 = .ok (.bipush 16, 2) := by decide +kernel
theorem dX8_put_20 : decode cX8_put 20 = .ok (.invokestatic 92, 3) := by decide +kernel
theorem dX8_put_23 : decode cX8_put 23 = .ok (.ifCond .ne 5, 3) := by decide +kernel
theorem dX8_put_26 : decode cX8_put 26 = .ok (.iconst (-1), 1) := by decide +kernel
theorem dX8_put_27 : decode cX8_put 27 = .ok (.ireturn, 1) := by decide +kernel
theorem dX8_put_28 : decode cX8_put 28 = .ok (.aload_n 0, 1) := by decide +kernel
theorem dX8_put_29 : decode cX8_put 29 = .ok (.iload_n 1, 1) := by decide +kernel
theorem dX8_put_30 : decode cX8_put 30 = .ok (.iload_n 2, 1) := by decide +kernel
theorem dX8_put_31 : decode cX8_put 31 = .ok (.invokestatic 98, 3) := by decide +kernel
theorem dX8_put_34 : decode cX8_put 34 = .ok (.iload_n 3, 1) := by decide +kernel
theorem dX8_put_35 : decode cX8_put 35 = .ok (.invokevirtual 117, 3) := by decide +kernel
theorem dX8_put_38 : decode cX8_put 38 = .ok (.istore 5, 2) := by decide +kernel
theorem dX8_put_40 : decode cX8_put 40 = .ok (.iload 5, 2) := by decide +kernel
theorem dX8_put_42 : decode cX8_put 42 = .ok (.iconst (-1), 1) := by decide +kernel
theorem dX8_put_43 : decode cX8_put 43 = .ok (.if_icmp .eq 19, 3) := by decide +kernel
theorem dX8_put_46 : decode cX8_put 46 = .ok (.aload_n 0, 1) := by decide +kernel
theorem dX8_put_47 : decode cX8_put 47 = .ok (.getfield 20, 3) := by decide +kernel
theorem dX8_put_50 : decode cX8_put 50 = .ok (.bipush 64, 2) := by decide +kernel
theorem dX8_put_52 : decode cX8_put 52 = .ok (.iload_n 1, 1) := by decide +kernel
theorem dX8_put_53 : decode cX8_put 53 = .ok (.imul, 1) := by decide +kernel
theorem dX8_put_54 : decode cX8_put 54 = .ok (.iload 5, 2) := by decide +kernel
theorem dX8_put_56 : decode cX8_put 56 = .ok (.iadd, 1) := by decide +kernel
theorem dX8_put_57 : decode cX8_put 57 = .ok (.iload 4, 2) := by decide +kernel
theorem dX8_put_59 : decode cX8_put 59 = .ok (.iastore, 1) := by decide +kernel
theorem dX8_put_60 : decode cX8_put 60 = .ok (.iconst 1, 1) := by decide +kernel
theorem dX8_put_61 : decode cX8_put 61 = .ok (.ireturn, 1) := by decide +kernel
theorem dX8_put_62 : decode cX8_put 62 = .ok (.aload_n 0, 1) := by decide +kernel
theorem dX8_put_63 : decode cX8_put 63 = .ok (.getfield 7, 3) := by decide +kernel
theorem dX8_put_66 : decode cX8_put 66 = .ok (.iload_n 1, 1) := by decide +kernel
theorem dX8_put_67 : decode cX8_put 67 = .ok (.iaload, 1) := by decide +kernel
theorem dX8_put_68 : decode cX8_put 68 = .ok (.bipush 64, 2) := by decide +kernel
theorem dX8_put_70 : decode cX8_put 70 = .ok (.if_icmp .ne 5, 3) := by decide +kernel
theorem dX8_put_73 : decode cX8_put 73 = .ok (.iconst (-1), 1) := by decide +kernel
theorem dX8_put_74 : decode cX8_put 74 = .ok (.ireturn, 1) := by decide +kernel
theorem dX8_put_75 : decode cX8_put 75 = .ok (.aload_n 0, 1) := by decide +kernel
theorem dX8_put_76 : decode cX8_put 76 = .ok (.iload_n 1, 1) := by decide +kernel
theorem dX8_put_77 : decode cX8_put 77 = .ok (.iload_n 2, 1) := by decide +kernel
theorem dX8_put_78 : decode cX8_put 78 = .ok (.invokestatic 98, 3) := by decide +kernel
theorem dX8_put_81 : decode cX8_put 81 = .ok (.iload_n 3, 1) := by decide +kernel
theorem dX8_put_82 : decode cX8_put 82 = .ok (.iload 4, 2) := by decide +kernel
theorem dX8_put_84 : decode cX8_put 84 = .ok (.invokevirtual 121, 3) := by decide +kernel
theorem dX8_put_87 : decode cX8_put 87 = .ok (.iconst 0, 1) := by decide +kernel
theorem dX8_put_88 : decode cX8_put 88 = .ok (.ireturn, 1) := by decide +kernel
set_option maxRecDepth 20000 in
theorem ggX8_drop_X8_isBook : GoodIn wsX8_drop wsX8_isBook := goodIn_r _ [5, 6, 7, 4, 8] (by decide +kernel) (by decide +kernel)
set_option maxRecDepth 20000 in
theorem gX8_drop_X8_isBook : GoodIn wsX8_drop (va_wsS RX8 109 yX8_isBook wsX8_isBook) := goodIn_app (goodIn_of _ (by decide +kernel)) ggX8_drop_X8_isBook
set_option maxRecDepth 20000 in
theorem ggX8_drop_X8_isBeginning : GoodIn wsX8_drop wsX8_isBeginning := goodIn_r _ [11, 6, 7, 4, 8, 12, 13, 14, 15, 16, 17, 18] (by decide +kernel) (by decide +kernel)
set_option maxRecDepth 20000 in
theorem gX8_drop_X8_isBeginning : GoodIn wsX8_drop (va_wsS RX8 113 yX8_isBeginning wsX8_isBeginning) := goodIn_app (goodIn_of _ (by decide +kernel)) ggX8_drop_X8_isBeginning
set_option maxRecDepth 20000 in
theorem ggX8_drop_X8_number : GoodIn wsX8_drop wsX8_number := goodIn_r _ [14, 15] (by decide +kernel) (by decide +kernel)
set_option maxRecDepth 20000 in
theorem gX8_drop_X8_number : GoodIn wsX8_drop (va_wsS RX8 98 yX8_number wsX8_number) := goodIn_app (goodIn_of _ (by decide +kernel)) ggX8_drop_X8_number
set_option maxRecDepth 20000 in
theorem ggX8_drop_X8_at : GoodIn wsX8_drop wsX8_at := goodIn_r _ [22, 1, 23, 24, 30, 31, 32, 33, 34, 35, 36, 37, 38, 39, 40, 41, 42, 43, 44, 45, 46, 47, 48, 49, 50, 51, 52, 53, 54, 55, 56, 57, 58, 59, 60, 61, 62, 63] (by decide +kernel) (by decide +kernel)
set_option maxRecDepth 20000 in
theorem gX8_drop_X8_at : GoodIn wsX8_drop (wsV RX8 117 RX8 yX8_at wsX8_at) := goodIn_app (goodIn_of _ (by decide +kernel)) ggX8_drop_X8_at
set_option maxRecDepth 20000 in
theorem ggX8_drop_X8_moves : GoodIn wsX8_drop wsX8_moves := goodIn_r _ [28, 23, 24, 29, 30, 31, 32, 33, 34, 35, 36, 37, 38, 39, 40, 41, 42, 43, 44, 45, 46, 47, 48, 49, 50, 51, 52, 53, 54, 55, 56, 57, 58, 59, 60, 61, 62, 63] (by decide +kernel) (by decide +kernel)
set_option maxRecDepth 20000 in
theorem gX8_drop_X8_moves : GoodIn wsX8_drop (wsV RX8 105 RX8 yX8_moves wsX8_moves) := goodIn_app (goodIn_of _ (by decide +kernel)) ggX8_drop_X8_moves
theorem dX8_drop_0 : decode cX8_drop 0 = .ok (.iload_n 1, 1) := by decide +kernel
theorem dX8_drop_1 : decode cX8_drop 1 = .ok (.invokestatic 109, 3) := by decide +kernel
theorem dX8_drop_4 : decode cX8_drop 4 = .ok (.ifCond .eq 24, 3) := by decide +kernel
theorem dX8_drop_7 : decode cX8_drop 7 = .ok (.iload_n 2, 1) := by decide +kernel
theorem dX8_drop_8 : decode cX8_drop 8 = .ok (.iload_n 3, 1) := by decide +kernel
theorem dX8_drop_9 : decode cX8_drop 9 = .ok (.invokestatic 113, 3) := by decide +kernel
theorem dX8_drop_12 : decode cX8_drop 12 = .ok (.ifCond .eq 16, 3) := by decide +kernel
theorem dX8_drop_15 : decode cX8_drop 15 = .ok (.aload_n 0, 1) := by decide +kernel
theorem dX8_drop_16 : decode cX8_drop 16 = .ok (.iload_n 1, 1) := by decide +kernel
theorem dX8_drop_17 : decode cX8_drop 17 = .ok (.iload_n 2, 1) := by decide +kernel
theorem dX8_drop_18 : decode cX8_drop 18 = .ok (.invokestatic 98, 3) := by decide +kernel
theorem dX8_drop_21 : decode cX8_drop 21 = .ok (.iload_n 3, 1) := by decide +kernel
theorem dX8_drop_22 : decode cX8_drop 22 = .ok (.invokevirtual 117, 3) := by decide +kernel
theorem dX8_drop_25 : decode cX8_drop 25 = .ok (.goto 4, 3) := by decide +kernel
theorem dX8_drop_28 : decode cX8_drop 28 = .ok (.iconst (-1), 1) := by decide +kernel
theorem dX8_drop_29 : decode cX8_drop 29 = .ok (.istore 4, 2) := by decide +kernel
theorem dX8_drop_31 : decode cX8_drop 31 = .ok (.iload 4, 2) := by decide +kernel
theorem dX8_drop_33 : decode cX8_drop 33 = .ok (.iconst (-1), 1) := by decide +kernel
theorem dX8_drop_34 : decode cX8_drop 34 = .ok (.if_icmp .ne 5, 3) := by decide +kernel
theorem dX8_drop_37 : decode cX8_drop 37 = .ok (.iconst 0, 1) := by decide +kernel
theorem dX8_drop_38 : decode cX8_drop 38 = .ok (.ireturn, 1) := by decide +kernel
theorem dX8_drop_39 : decode cX8_drop 39 = .ok (.aload_n 0, 1) := by decide +kernel
theorem dX8_drop_40 : decode cX8_drop 40 = .ok (.getfield 7, 3) := by decide +kernel
theorem dX8_drop_43 : decode cX8_drop 43 = .ok (.iload_n 1, 1) := by decide +kernel
theorem dX8_drop_44 : decode cX8_drop 44 = .ok (.dup2, 1) := by decide +kernel
theorem dX8_drop_45 : decode cX8_drop 45 = .ok (.iaload, 1) := by decide +kernel
theorem dX8_drop_46 : decode cX8_drop 46 = .ok (.iconst 1, 1) := by decide +kernel
theorem dX8_drop_47 : decode cX8_drop 47 = .ok (.isub, 1) := by decide +kernel
theorem dX8_drop_48 : decode cX8_drop 48 = .ok (.iastore, 1) := by decide +kernel
theorem dX8_drop_49 : decode cX8_drop 49 = .ok (.iload 4, 2) := by decide +kernel
theorem dX8_drop_51 : decode cX8_drop 51 = .ok (.istore 5, 2) := by decide +kernel
theorem dX8_drop_53 : decode cX8_drop 53 = .ok (.iload 5, 2) := by decide +kernel
theorem dX8_drop_55 : decode cX8_drop 55 = .ok (.aload_n 0, 1) := by decide +kernel
theorem dX8_drop_56 : decode cX8_drop 56 = .ok (.getfield 7, 3) := by decide +kernel
theorem dX8_drop_59 : decode cX8_drop 59 = .ok (.iload_n 1, 1) := by decide +kernel
theorem dX8_drop_60 : decode cX8_drop 60 = .ok (.iaload, 1) := by decide +kernel
theorem dX8_drop_61 : decode cX8_drop 61 = .ok (.if_icmp .ge 20, 3) := by decide +kernel
theorem dX8_drop_64 : decode cX8_drop 64 = .ok (.aload_n 0, 1) := by decide +kernel
theorem dX8_drop_65 : decode cX8_drop 65 = .ok (.iload_n 1, 1) := by decide +kernel
theorem dX8_drop_66 : decode cX8_drop 66 = .ok (.iload 5, 2) := by decide +kernel
theorem dX8_drop_68 : decode cX8_drop 68 = .ok (.iconst 1, 1) := by decide +kernel
theorem dX8_drop_69 : decode cX8_drop 69 = .ok (.iadd, 1) := by decide +kernel
theorem dX8_drop_70 : decode cX8_drop 70 = .ok (.iload 5, 2) := by decide +kernel
theorem dX8_drop_72 : decode cX8_drop 72 = .ok (.invokevirtual 105, 3) := by decide +kernel
theorem dX8_drop_75 : decode cX8_drop 75 = .ok (.iinc 5 1, 3) := by decide +kernel
theorem dX8_drop_78 : decode cX8_drop 78 = .ok (.goto (-25), 3) := by decide +kernel
theorem dX8_drop_81 : decode cX8_drop 81 = .ok (.iconst 1, 1) := by decide +kernel
theorem dX8_drop_82 : decode cX8_drop 82 = .ok (.ireturn, 1) := by decide +kernel
set_option maxRecDepth 20000 in
theorem ggX8_copy_X8_isBook : GoodIn wsX8_copy wsX8_isBook := goodIn_r _ [8, 9, 10, 7, 11] (by decide +kernel) (by decide +kernel)
set_option maxRecDepth 20000 in
theorem gX8_copy_X8_isBook : GoodIn wsX8_copy (va_wsS RX8 109 yX8_isBook wsX8_isBook) := goodIn_app (goodIn_of _ (by decide +kernel)) ggX8_copy_X8_isBook
theorem dX8_copy_0 : decode cX8_copy 0 = .ok (.iload_n 1, 1) := by decide +kernel
theorem dX8_copy_1 : decode cX8_copy 1 = .ok (.invokestatic 109, 3) := by decide +kernel
theorem dX8_copy_4 : decode cX8_copy 4 = .ok (.ifCond .eq 10, 3) := by decide +kernel
theorem dX8_copy_7 : decode cX8_copy 7 = .ok (.iload_n 2, 1) := by decide +kernel
theorem dX8_copy_8 : decode cX8_copy 8 = .ok (.invokestatic 109, 3) := by decide +kernel
theorem dX8_copy_11 : decode cX8_copy 11 = .ok (.ifCond .ne 5, 3) := by decide +kernel
theorem dX8_copy_14 : decode cX8_copy 14 = .ok (.iconst (-1), 1) := by decide +kernel
theorem dX8_copy_15 : decode cX8_copy 15 = .ok (.ireturn, 1) := by decide +kernel
theorem dX8_copy_16 : decode cX8_copy 16 = .ok (.aload_n 0, 1) := by decide +kernel
theorem dX8_copy_17 : decode cX8_copy 17 = .ok (.getfield 7, 3) := by decide +kernel
theorem dX8_copy_20 : decode cX8_copy 20 = .ok (.iload_n 2, 1) := by decide +kernel
theorem dX8_copy_21 : decode cX8_copy 21 = .ok (.aload_n 0, 1) := by decide +kernel
theorem dX8_copy_22 : decode cX8_copy 22 = .ok (.getfield 7, 3) := by decide +kernel
theorem dX8_copy_25 : decode cX8_copy 25 = .ok (.iload_n 1, 1) := by decide +kernel
theorem dX8_copy_26 : decode cX8_copy 26 = .ok (.iaload, 1) := by decide +kernel
theorem dX8_copy_27 : decode cX8_copy 27 = .ok (.iastore, 1) := by decide +kernel
theorem dX8_copy_28 : decode cX8_copy 28 = .ok (.iconst 0, 1) := by decide +kernel
theorem dX8_copy_29 : decode cX8_copy 29 = .ok (.istore_n 3, 1) := by decide +kernel
theorem dX8_copy_30 : decode cX8_copy 30 = .ok (.iload_n 3, 1) := by decide +kernel
theorem dX8_copy_31 : decode cX8_copy 31 = .ok (.aload_n 0, 1) := by decide +kernel
theorem dX8_copy_32 : decode cX8_copy 32 = .ok (.getfield 7, 3) := by decide +kernel
theorem dX8_copy_35 : decode cX8_copy 35 = .ok (.iload_n 1, 1) := by decide +kernel
theorem dX8_copy_36 : decode cX8_copy 36 = .ok (.iaload, 1) := by decide +kernel
theorem dX8_copy_37 : decode cX8_copy 37 = .ok (.if_icmp .ge 75, 3) := by decide +kernel
theorem dX8_copy_40 : decode cX8_copy 40 = .ok (.aload_n 0, 1) := by decide +kernel
theorem dX8_copy_41 : decode cX8_copy 41 = .ok (.getfield 13, 3) := by decide +kernel
theorem dX8_copy_44 : decode cX8_copy 44 = .ok (.bipush 64, 2) := by decide +kernel
theorem dX8_copy_46 : decode cX8_copy 46 = .ok (.iload_n 2, 1) := by decide +kernel
theorem dX8_copy_47 : decode cX8_copy 47 = .ok (.imul, 1) := by decide +kernel
theorem dX8_copy_48 : decode cX8_copy 48 = .ok (.iload_n 3, 1) := by decide +kernel
theorem dX8_copy_49 : decode cX8_copy 49 = .ok (.iadd, 1) := by decide +kernel
theorem dX8_copy_50 : decode cX8_copy 50 = .ok (.aload_n 0, 1) := by decide +kernel
theorem dX8_copy_51 : decode cX8_copy 51 = .ok (.getfield 13, 3) := by decide +kernel
theorem dX8_copy_54 : decode cX8_copy 54 = .ok (.bipush 64, 2) := by decide +kernel
theorem dX8_copy_56 : decode cX8_copy 56 = .ok (.iload_n 1, 1) := by decide +kernel
theorem dX8_copy_57 : decode cX8_copy 57 = .ok (.imul, 1) := by decide +kernel
theorem dX8_copy_58 : decode cX8_copy 58 = .ok (.iload_n 3, 1) := by decide +kernel
theorem dX8_copy_59 : decode cX8_copy 59 = .ok (.iadd, 1) := by decide +kernel
theorem dX8_copy_60 : decode cX8_copy 60 = .ok (.laload, 1) := by decide +kernel
theorem dX8_copy_61 : decode cX8_copy 61 = .ok (.lastore, 1) := by decide +kernel
theorem dX8_copy_62 : decode cX8_copy 62 = .ok (.aload_n 0, 1) := by decide +kernel
theorem dX8_copy_63 : decode cX8_copy 63 = .ok (.getfield 17, 3) := by decide +kernel
theorem dX8_copy_66 : decode cX8_copy 66 = .ok (.bipush 64, 2) := by decide +kernel
theorem dX8_copy_68 : decode cX8_copy 68 = .ok (.iload_n 2, 1) := by decide +kernel
theorem dX8_copy_69 : decode cX8_copy 69 = .ok (.imul, 1) := by decide +kernel
theorem dX8_copy_70 : decode cX8_copy 70 = .ok (.iload_n 3, 1) := by decide +kernel
theorem dX8_copy_71 : decode cX8_copy 71 = .ok (.iadd, 1) := by decide +kernel
theorem dX8_copy_72 : decode cX8_copy 72 = .ok (.aload_n 0, 1) := by decide +kernel
theorem dX8_copy_73 : decode cX8_copy 73 = .ok (.getfield 17, 3) := by decide +kernel
theorem dX8_copy_76 : decode cX8_copy 76 = .ok (.bipush 64, 2) := by decide +kernel
theorem dX8_copy_78 : decode cX8_copy 78 = .ok (.iload_n 1, 1) := by decide +kernel
theorem dX8_copy_79 : decode cX8_copy 79 = .ok (.imul, 1) := by decide +kernel
theorem dX8_copy_80 : decode cX8_copy 80 = .ok (.iload_n 3, 1) := by decide +kernel
theorem dX8_copy_81 : decode cX8_copy 81 = .ok (.iadd, 1) := by decide +kernel
theorem dX8_copy_82 : decode cX8_copy 82 = .ok (.iaload, 1) := by decide +kernel
theorem dX8_copy_83 : decode cX8_copy 83 = .ok (.iastore, 1) := by decide +kernel
theorem dX8_copy_84 : decode cX8_copy 84 = .ok (.aload_n 0, 1) := by decide +kernel
theorem dX8_copy_85 : decode cX8_copy 85 = .ok (.getfield 20, 3) := by decide +kernel
theorem dX8_copy_88 : decode cX8_copy 88 = .ok (.bipush 64, 2) := by decide +kernel
theorem dX8_copy_90 : decode cX8_copy 90 = .ok (.iload_n 2, 1) := by decide +kernel
theorem dX8_copy_91 : decode cX8_copy 91 = .ok (.imul, 1) := by decide +kernel
theorem dX8_copy_92 : decode cX8_copy 92 = .ok (.iload_n 3, 1) := by decide +kernel
theorem dX8_copy_93 : decode cX8_copy 93 = .ok (.iadd, 1) := by decide +kernel
theorem dX8_copy_94 : decode cX8_copy 94 = .ok (.aload_n 0, 1) := by decide +kernel
theorem dX8_copy_95 : decode cX8_copy 95 = .ok (.getfield 20, 3) := by decide +kernel
theorem dX8_copy_98 : decode cX8_copy 98 = .ok (.bipush 64, 2) := by decide +kernel
theorem dX8_copy_100 : decode cX8_copy 100 = .ok (.iload_n 1, 1) := by decide +kernel
theorem dX8_copy_101 : decode cX8_copy 101 = .ok (.imul, 1) := by decide +kernel
theorem dX8_copy_102 : decode cX8_copy 102 = .ok (.iload_n 3, 1) := by decide +kernel
theorem dX8_copy_103 : decode cX8_copy 103 = .ok (.iadd, 1) := by decide +kernel
theorem dX8_copy_104 : decode cX8_copy 104 = .ok (.iaload, 1) := by decide +kernel
theorem dX8_copy_105 : decode cX8_copy 105 = .ok (.iastore, 1) := by decide +kernel
theorem dX8_copy_106 : decode cX8_copy 106 = .ok (.iinc 3 1, 3) := by decide +kernel
theorem dX8_copy_109 : decode cX8_copy 109 = .ok (.goto (-79), 3) := by decide +kernel
theorem dX8_copy_112 : decode cX8_copy 112 = .ok (.aload_n 0, 1) := by decide +kernel
theorem dX8_copy_113 : decode cX8_copy 113 = .ok (.getfield 7, 3) := by decide +kernel
theorem dX8_copy_116 : decode cX8_copy 116 = .ok (.iload_n 2, 1) := by decide +kernel
theorem dX8_copy_117 : decode cX8_copy 117 = .ok (.iaload, 1) := by decide +kernel
theorem dX8_copy_118 : decode cX8_copy 118 = .ok (.ireturn, 1) := by decide +kernel
set_option maxRecDepth 20000 in
theorem ggX8_count_X8_isBook : GoodIn wsX8_count wsX8_isBook := goodIn_r _ [5, 6, 7, 4, 8] (by decide +kernel) (by decide +kernel)
set_option maxRecDepth 20000 in
theorem gX8_count_X8_isBook : GoodIn wsX8_count (va_wsS RX8 109 yX8_isBook wsX8_isBook) := goodIn_app (goodIn_of _ (by decide +kernel)) ggX8_count_X8_isBook
theorem dX8_count_0 : decode cX8_count 0 = .ok (.iload_n 1, 1) := by decide +kernel
theorem dX8_count_1 : decode cX8_count 1 = .ok (.invokestatic 109, 3) := by decide +kernel
theorem dX8_count_4 : decode cX8_count 4 = .ok (.ifCond .eq 12, 3) := by decide +kernel
theorem dX8_count_7 : decode cX8_count 7 = .ok (.aload_n 0, 1) := by decide +kernel
theorem dX8_count_8 : decode cX8_count 8 = .ok (.getfield 7, 3) := by decide +kernel
theorem dX8_count_11 : decode cX8_count 11 = .ok (.iload_n 1, 1) := by decide +kernel
theorem dX8_count_12 : decode cX8_count 12 = .ok (.iaload, 1) := by decide +kernel
theorem dX8_count_13 : decode cX8_count 13 = .ok (.goto 4, 3) := by decide +kernel
theorem dX8_count_16 : decode cX8_count 16 = .ok (.iconst (-1), 1) := by decide +kernel
theorem dX8_count_17 : decode cX8_count 17 = .ok (.ireturn, 1) := by decide +kernel
set_option maxRecDepth 20000 in
theorem ggX8_line_X8_isBook : GoodIn wsX8_line wsX8_isBook := goodIn_r _ [9, 10, 11, 8, 12] (by decide +kernel) (by decide +kernel)
set_option maxRecDepth 20000 in
theorem gX8_line_X8_isBook : GoodIn wsX8_line (va_wsS RX8 109 yX8_isBook wsX8_isBook) := goodIn_app (goodIn_of _ (by decide +kernel)) ggX8_line_X8_isBook
set_option maxRecDepth 20000 in
theorem ggX8_line_X8_lies : GoodIn wsX8_line wsX8_lies := goodIn_r _ [12] (by decide +kernel) (by decide +kernel)
set_option maxRecDepth 20000 in
theorem gX8_line_X8_lies : GoodIn wsX8_line (va_wsS RX8 92 yX8_lies wsX8_lies) := goodIn_app (goodIn_of _ (by decide +kernel)) ggX8_line_X8_lies
theorem dX8_line_0 : decode cX8_line 0 = .ok (.iload_n 1, 1) := by decide +kernel
theorem dX8_line_1 : decode cX8_line 1 = .ok (.invokestatic 109, 3) := by decide +kernel
theorem dX8_line_4 : decode cX8_line 4 = .ok (.ifCond .eq 19, 3) := by decide +kernel
theorem dX8_line_7 : decode cX8_line 7 = .ok (.iload_n 2, 1) := by decide +kernel
theorem dX8_line_8 : decode cX8_line 8 = .ok (.iconst 0, 1) := by decide +kernel
theorem dX8_line_9 : decode cX8_line 9 = .ok (.aload_n 0, 1) := by decide +kernel
theorem dX8_line_10 : decode cX8_line 10 = .ok (.getfield 7, 3) := by decide +kernel
theorem dX8_line_13 : decode cX8_line 13 = .ok (.iload_n 1, 1) := by decide +kernel
theorem dX8_line_14 : decode cX8_line 14 = .ok (.iaload, 1) := by decide +kernel
theorem dX8_line_15 : decode cX8_line 15 = .ok (.iconst 1, 1) := by decide +kernel
theorem dX8_line_16 : decode cX8_line 16 = .ok (.isub, 1) := by decide +kernel
theorem dX8_line_17 : decode cX8_line 17 = .ok (.invokestatic 92, 3) := by decide +kernel
theorem dX8_line_20 : decode cX8_line 20 = .ok (.ifCond .ne 7, 3) := by decide +kernel
theorem dX8_line_23 : decode cX8_line 23 = .ok (.ldc2_w 124, 3) := by decide +kernel
theorem dX8_line_26 : decode cX8_line 26 = .ok (.lreturn, 1) := by decide +kernel
theorem dX8_line_27 : decode cX8_line 27 = .ok (.bipush 64, 2) := by decide +kernel
theorem dX8_line_29 : decode cX8_line 29 = .ok (.iload_n 1, 1) := by decide +kernel
theorem dX8_line_30 : decode cX8_line 30 = .ok (.imul, 1) := by decide +kernel
theorem dX8_line_31 : decode cX8_line 31 = .ok (.iload_n 2, 1) := by decide +kernel
theorem dX8_line_32 : decode cX8_line 32 = .ok (.iadd, 1) := by decide +kernel
theorem dX8_line_33 : decode cX8_line 33 = .ok (.istore 4, 2) := by decide +kernel
theorem dX8_line_35 : decode cX8_line 35 = .ok (.iload_n 3, 1) := by decide +kernel
theorem dX8_line_36 : decode cX8_line 36 = .ok (.ifCond .ne 13, 3) := by decide +kernel
theorem dX8_line_39 : decode cX8_line 39 = .ok (.aload_n 0, 1) := by decide +kernel
theorem dX8_line_40 : decode cX8_line 40 = .ok (.getfield 13, 3) := by decide +kernel
theorem dX8_line_43 : decode cX8_line 43 = .ok (.iload 4, 2) := by decide +kernel
theorem dX8_line_45 : decode cX8_line 45 = .ok (.laload, 1) := by decide +kernel
theorem dX8_line_46 : decode cX8_line 46 = .ok (.goto 38, 3) := by decide +kernel
theorem dX8_line_49 : decode cX8_line 49 = .ok (.iload_n 3, 1) := by decide +kernel
theorem dX8_line_50 : decode cX8_line 50 = .ok (.iconst 1, 1) := by decide +kernel
theorem dX8_line_51 : decode cX8_line 51 = .ok (.if_icmp .ne 14, 3) := by decide +kernel
theorem dX8_line_54 : decode cX8_line 54 = .ok (.aload_n 0, 1) := by decide +kernel
theorem dX8_line_55 : decode cX8_line 55 = .ok (.getfield 17, 3) := by decide +kernel
theorem dX8_line_58 : decode cX8_line 58 = .ok (.iload 4, 2) := by decide +kernel
theorem dX8_line_60 : decode cX8_line 60 = .ok (.iaload, 1) := by decide +kernel
theorem dX8_line_61 : decode cX8_line 61 = .ok (.i2l, 1) := by decide +kernel
theorem dX8_line_62 : decode cX8_line 62 = .ok (.goto 22, 3) := by decide +kernel
theorem dX8_line_65 : decode cX8_line 65 = .ok (.iload_n 3, 1) := by decide +kernel
theorem dX8_line_66 : decode cX8_line 66 = .ok (.iconst 2, 1) := by decide +kernel
theorem dX8_line_67 : decode cX8_line 67 = .ok (.if_icmp .ne 14, 3) := by decide +kernel
theorem dX8_line_70 : decode cX8_line 70 = .ok (.aload_n 0, 1) := by decide +kernel
theorem dX8_line_71 : decode cX8_line 71 = .ok (.getfield 20, 3) := by decide +kernel
theorem dX8_line_74 : decode cX8_line 74 = .ok (.iload 4, 2) := by decide +kernel
theorem dX8_line_76 : decode cX8_line 76 = .ok (.iaload, 1) := by decide +kernel
theorem dX8_line_77 : decode cX8_line 77 = .ok (.i2l, 1) := by decide +kernel
theorem dX8_line_78 : decode cX8_line 78 = .ok (.goto 6, 3) := by decide +kernel
theorem dX8_line_81 : decode cX8_line 81 = .ok (.ldc2_w 124, 3) := by decide +kernel
theorem dX8_line_84 : decode cX8_line 84 = .ok (.lreturn, 1) := by decide +kernel
set_option maxRecDepth 20000 in
theorem ggX8_best_X8_begins : GoodIn wsX8_best wsX8_begins := goodIn_r _ [7, 8, 9, 6, 10] (by decide +kernel) (by decide +kernel)
set_option maxRecDepth 20000 in
theorem gX8_best_X8_begins : GoodIn wsX8_best (va_wsS RX8 126 yX8_begins wsX8_begins) := goodIn_app (goodIn_of _ (by decide +kernel)) ggX8_best_X8_begins
theorem dX8_best_0 : decode cX8_best 0 = .ok (.iconst (-1), 1) := by decide +kernel
theorem dX8_best_1 : decode cX8_best 1 = .ok (.istore 4, 2) := by decide +kernel
theorem dX8_best_3 : decode cX8_best 3 = .ok (.iconst 0, 1) := by decide +kernel
theorem dX8_best_4 : decode cX8_best 4 = .ok (.istore 5, 2) := by decide +kernel
theorem dX8_best_6 : decode cX8_best 6 = .ok (.iload 5, 2) := by decide +kernel
theorem dX8_best_8 : decode cX8_best 8 = .ok (.aload_n 0, 1) := by decide +kernel
theorem dX8_best_9 : decode cX8_best 9 = .ok (.getfield 7, 3) := by decide +kernel
theorem dX8_best_12 : decode cX8_best 12 = .ok (.iload_n 1, 1) := by decide +kernel
theorem dX8_best_13 : decode cX8_best 13 = .ok (.iaload, 1) := by decide +kernel
theorem dX8_best_14 : decode cX8_best 14 = .ok (.if_icmp .ge 80, 3) := by decide +kernel
theorem dX8_best_17 : decode cX8_best 17 = .ok (.lload_n 2, 1) := by decide +kernel
theorem dX8_best_18 : decode cX8_best 18 = .ok (.aload_n 0, 1) := by decide +kernel
theorem dX8_best_19 : decode cX8_best 19 = .ok (.getfield 13, 3) := by decide +kernel
theorem dX8_best_22 : decode cX8_best 22 = .ok (.bipush 64, 2) := by decide +kernel
theorem dX8_best_24 : decode cX8_best 24 = .ok (.iload_n 1, 1) := by decide +kernel
theorem dX8_best_25 : decode cX8_best 25 = .ok (.imul, 1) := by decide +kernel
theorem dX8_best_26 : decode cX8_best 26 = .ok (.iload 5, 2) := by decide +kernel
theorem dX8_best_28 : decode cX8_best 28 = .ok (.iadd, 1) := by decide +kernel
theorem dX8_best_29 : decode cX8_best 29 = .ok (.laload, 1) := by decide +kernel
theorem dX8_best_30 : decode cX8_best 30 = .ok (.aload_n 0, 1) := by decide +kernel
theorem dX8_best_31 : decode cX8_best 31 = .ok (.getfield 17, 3) := by decide +kernel
theorem dX8_best_34 : decode cX8_best 34 = .ok (.bipush 64, 2) := by decide +kernel
theorem dX8_best_36 : decode cX8_best 36 = .ok (.iload_n 1, 1) := by decide +kernel
theorem dX8_best_37 : decode cX8_best 37 = .ok (.imul, 1) := by decide +kernel
theorem dX8_best_38 : decode cX8_best 38 = .ok (.iload 5, 2) := by decide +kernel
theorem dX8_best_40 : decode cX8_best 40 = .ok (.iadd, 1) := by decide +kernel
theorem dX8_best_41 : decode cX8_best 41 = .ok (.iaload, 1) := by decide +kernel
theorem dX8_best_42 : decode cX8_best 42 = .ok (.invokestatic 126, 3) := by decide +kernel
theorem dX8_best_45 : decode cX8_best 45 = .ok (.ifCond .ne 6, 3) := by decide +kernel
theorem dX8_best_48 : decode cX8_best 48 = .ok (.goto 40, 3) := by decide +kernel
theorem dX8_best_51 : decode cX8_best 51 = .ok (.iload 4, 2) := by decide +kernel
theorem dX8_best_53 : decode cX8_best 53 = .ok (.iconst (-1), 1) := by decide +kernel
theorem dX8_best_54 : decode cX8_best 54 = .ok (.if_icmp .eq 30, 3) := by decide +kernel
theorem dX8_best_57 : decode cX8_best 57 = .ok (.aload_n 0, 1) := by decide +kernel
theorem dX8_best_58 : decode cX8_best 58 = .ok (.getfield 17, 3) := by decide +kernel
theorem dX8_best_61 : decode cX8_best 61 = .ok (.bipush 64, 2) := by decide +kernel
theorem dX8_best_63 : decode cX8_best 63 = .ok (.iload_n 1, 1) := by decide +kernel
theorem dX8_best_64 : decode cX8_best 64 = .ok (.imul, 1) := by decide +kernel
theorem dX8_best_65 : decode cX8_best 65 = .ok (.iload 5, 2) := by decide +kernel
theorem dX8_best_67 : decode cX8_best 67 = .ok (.iadd, 1) := by decide +kernel
theorem dX8_best_68 : decode cX8_best 68 = .ok (.iaload, 1) := by decide +kernel
theorem dX8_best_69 : decode cX8_best 69 = .ok (.aload_n 0, 1) := by decide +kernel
theorem dX8_best_70 : decode cX8_best 70 = .ok (.getfield 17, 3) := by decide +kernel
theorem dX8_best_73 : decode cX8_best 73 = .ok (.bipush 64, 2) := by decide +kernel
theorem dX8_best_75 : decode cX8_best 75 = .ok (.iload_n 1, 1) := by decide +kernel
theorem dX8_best_76 : decode cX8_best 76 = .ok (.imul, 1) := by decide +kernel
theorem dX8_best_77 : decode cX8_best 77 = .ok (.iload 4, 2) := by decide +kernel
theorem dX8_best_79 : decode cX8_best 79 = .ok (.iadd, 1) := by decide +kernel
theorem dX8_best_80 : decode cX8_best 80 = .ok (.iaload, 1) := by decide +kernel
theorem dX8_best_81 : decode cX8_best 81 = .ok (.if_icmp .le 7, 3) := by decide +kernel
theorem dX8_best_84 : decode cX8_best 84 = .ok (.iload 5, 2) := by decide +kernel
theorem dX8_best_86 : decode cX8_best 86 = .ok (.istore 4, 2) := by decide +kernel
theorem dX8_best_88 : decode cX8_best 88 = .ok (.iinc 5 1, 3) := by decide +kernel
theorem dX8_best_91 : decode cX8_best 91 = .ok (.goto (-85), 3) := by decide +kernel
theorem dX8_best_94 : decode cX8_best 94 = .ok (.iload 4, 2) := by decide +kernel
theorem dX8_best_96 : decode cX8_best 96 = .ok (.ireturn, 1) := by decide +kernel
set_option maxRecDepth 20000 in
theorem ggX8_leads_X8_best : GoodIn wsX8_leads wsX8_best := goodIn_r _ [6, 7, 8, 9, 10, 11, 5, 12, 13, 14, 15, 16, 17, 18, 19, 20, 21, 22, 23, 24, 25, 26, 27, 28, 29, 30, 31, 32, 33, 34, 35, 36, 37, 38, 39, 40, 41, 42, 43, 44, 45, 46, 47, 48, 49] (by decide +kernel) (by decide +kernel)
set_option maxRecDepth 20000 in
theorem gX8_leads_X8_best : GoodIn wsX8_leads (wsV RX8 130 RX8 yX8_best wsX8_best) := goodIn_app (goodIn_of _ (by decide +kernel)) ggX8_leads_X8_best
theorem dX8_leads_0 : decode cX8_leads 0 = .ok (.aload_n 0, 1) := by decide +kernel
theorem dX8_leads_1 : decode cX8_leads 1 = .ok (.iload_n 1, 1) := by decide +kernel
theorem dX8_leads_2 : decode cX8_leads 2 = .ok (.lload_n 2, 1) := by decide +kernel
theorem dX8_leads_3 : decode cX8_leads 3 = .ok (.invokevirtual 130, 3) := by decide +kernel
theorem dX8_leads_6 : decode cX8_leads 6 = .ok (.istore 4, 2) := by decide +kernel
theorem dX8_leads_8 : decode cX8_leads 8 = .ok (.iload 4, 2) := by decide +kernel
theorem dX8_leads_10 : decode cX8_leads 10 = .ok (.iconst (-1), 1) := by decide +kernel
theorem dX8_leads_11 : decode cX8_leads 11 = .ok (.if_icmp .ne 8, 3) := by decide +kernel
theorem dX8_leads_14 : decode cX8_leads 14 = .ok (.bipush 16, 2) := by decide +kernel
theorem dX8_leads_16 : decode cX8_leads 16 = .ok (.goto 15, 3) := by decide +kernel
theorem dX8_leads_19 : decode cX8_leads 19 = .ok (.aload_n 0, 1) := by decide +kernel
theorem dX8_leads_20 : decode cX8_leads 20 = .ok (.getfield 20, 3) := by decide +kernel
theorem dX8_leads_23 : decode cX8_leads 23 = .ok (.bipush 64, 2) := by decide +kernel
theorem dX8_leads_25 : decode cX8_leads 25 = .ok (.iload_n 1, 1) := by decide +kernel
theorem dX8_leads_26 : decode cX8_leads 26 = .ok (.imul, 1) := by decide +kernel
theorem dX8_leads_27 : decode cX8_leads 27 = .ok (.iload 4, 2) := by decide +kernel
theorem dX8_leads_29 : decode cX8_leads 29 = .ok (.iadd, 1) := by decide +kernel
theorem dX8_leads_30 : decode cX8_leads 30 = .ok (.iaload, 1) := by decide +kernel
theorem dX8_leads_31 : decode cX8_leads 31 = .ok (.ireturn, 1) := by decide +kernel
set_option maxRecDepth 20000 in
theorem ggX8_find_X8_isBook : GoodIn wsX8_find wsX8_isBook := goodIn_r _ [4, 5, 6, 3, 7] (by decide +kernel) (by decide +kernel)
set_option maxRecDepth 20000 in
theorem gX8_find_X8_isBook : GoodIn wsX8_find (va_wsS RX8 109 yX8_isBook wsX8_isBook) := goodIn_app (goodIn_of _ (by decide +kernel)) ggX8_find_X8_isBook
set_option maxRecDepth 20000 in
theorem ggX8_find_X8_number : GoodIn wsX8_find wsX8_number := goodIn_r _ [10, 11] (by decide +kernel) (by decide +kernel)
set_option maxRecDepth 20000 in
theorem gX8_find_X8_number : GoodIn wsX8_find (va_wsS RX8 98 yX8_number wsX8_number) := goodIn_app (goodIn_of _ (by decide +kernel)) ggX8_find_X8_number
set_option maxRecDepth 20000 in
theorem ggX8_find_X8_leads : GoodIn wsX8_find wsX8_leads := goodIn_r _ [15, 16, 17, 18, 19, 3, 20, 21, 22, 23, 24, 25, 26, 27, 28, 29, 30, 31, 32, 33, 34, 35, 36, 37, 38, 39, 40, 41, 42, 43, 44, 45, 46, 47, 48, 49, 50, 51, 52, 53, 54, 55, 56, 57, 58, 59, 60, 61, 62, 63] (by decide +kernel) (by decide +kernel)
set_option maxRecDepth 20000 in
theorem gX8_find_X8_leads : GoodIn wsX8_find (wsV RX8 134 RX8 yX8_leads wsX8_leads) := goodIn_app (goodIn_of _ (by decide +kernel)) ggX8_find_X8_leads
theorem dX8_find_0 : decode cX8_find 0 = .ok (.iload_n 1, 1) := by decide +kernel
theorem dX8_find_1 : decode cX8_find 1 = .ok (.invokestatic 109, 3) := by decide +kernel
theorem dX8_find_4 : decode cX8_find 4 = .ok (.ifCond .eq 15, 3) := by decide +kernel
theorem dX8_find_7 : decode cX8_find 7 = .ok (.aload_n 0, 1) := by decide +kernel
theorem dX8_find_8 : decode cX8_find 8 = .ok (.iload_n 1, 1) := by decide +kernel
theorem dX8_find_9 : decode cX8_find 9 = .ok (.iload_n 2, 1) := by decide +kernel
theorem dX8_find_10 : decode cX8_find 10 = .ok (.invokestatic 98, 3) := by decide +kernel
theorem dX8_find_13 : decode cX8_find 13 = .ok (.invokevirtual 134, 3) := by decide +kernel
theorem dX8_find_16 : decode cX8_find 16 = .ok (.goto 4, 3) := by decide +kernel
theorem dX8_find_19 : decode cX8_find 19 = .ok (.iconst (-1), 1) := by decide +kernel
theorem dX8_find_20 : decode cX8_find 20 = .ok (.ireturn, 1) := by decide +kernel
set_option maxRecDepth 20000 in
theorem ggX8_longest_X8_isBook : GoodIn wsX8_longest wsX8_isBook := goodIn_r _ [4, 5, 6, 3, 7] (by decide +kernel) (by decide +kernel)
set_option maxRecDepth 20000 in
theorem gX8_longest_X8_isBook : GoodIn wsX8_longest (va_wsS RX8 109 yX8_isBook wsX8_isBook) := goodIn_app (goodIn_of _ (by decide +kernel)) ggX8_longest_X8_isBook
set_option maxRecDepth 20000 in
theorem ggX8_longest_X8_number : GoodIn wsX8_longest wsX8_number := goodIn_r _ [10, 11] (by decide +kernel) (by decide +kernel)
set_option maxRecDepth 20000 in
theorem gX8_longest_X8_number : GoodIn wsX8_longest (va_wsS RX8 98 yX8_number wsX8_number) := goodIn_app (goodIn_of _ (by decide +kernel)) ggX8_longest_X8_number
set_option maxRecDepth 20000 in
theorem ggX8_longest_X8_best : GoodIn wsX8_longest wsX8_best := goodIn_r _ [15, 16, 17, 18, 19, 20, 3, 21, 22, 23, 24, 25, 26, 27, 28, 29, 30, 31, 32, 33, 34, 35, 36, 37, 38, 39, 40, 41, 42, 43, 44, 45, 46, 47, 48, 49, 50, 51, 52, 53, 54, 55, 56, 57, 58] (by decide +kernel) (by decide +kernel)
set_option maxRecDepth 20000 in
theorem gX8_longest_X8_best : GoodIn wsX8_longest (wsV RX8 130 RX8 yX8_best wsX8_best) := goodIn_app (goodIn_of _ (by decide +kernel)) ggX8_longest_X8_best
theorem dX8_longest_0 : decode cX8_longest 0 = .ok (.iload_n 1, 1) := by decide +kernel
theorem dX8_longest_1 : decode cX8_longest 1 = .ok (.invokestatic 109, 3) := by decide +kernel
theorem dX8_longest_4 : decode cX8_longest 4 = .ok (.ifCond .eq 15, 3) := by decide +kernel
theorem dX8_longest_7 : decode cX8_longest 7 = .ok (.aload_n 0, 1) := by decide +kernel
theorem dX8_longest_8 : decode cX8_longest 8 = .ok (.iload_n 1, 1) := by decide +kernel
theorem dX8_longest_9 : decode cX8_longest 9 = .ok (.iload_n 2, 1) := by decide +kernel
theorem dX8_longest_10 : decode cX8_longest 10 = .ok (.invokestatic 98, 3) := by decide +kernel
theorem dX8_longest_13 : decode cX8_longest 13 = .ok (.invokevirtual 130, 3) := by decide +kernel
theorem dX8_longest_16 : decode cX8_longest 16 = .ok (.goto 4, 3) := by decide +kernel
theorem dX8_longest_19 : decode cX8_longest 19 = .ok (.iconst (-1), 1) := by decide +kernel
theorem dX8_longest_20 : decode cX8_longest 20 = .ok (.ireturn, 1) := by decide +kernel
set_option maxRecDepth 20000 in
theorem ggX8_leads__X8_leads : GoodIn wsX8_leads_ wsX8_leads := goodIn_r _ [5, 6, 7, 8, 9, 4, 10, 11, 12, 13, 14, 15, 16, 17, 18, 19, 20, 21, 22, 23, 24, 25, 26, 27, 28, 29, 30, 31, 32, 33, 34, 35, 36, 37, 38, 39, 40, 41, 42, 43, 44, 45, 46, 47, 48, 49, 50, 51, 52, 53] (by decide +kernel) (by decide +kernel)
set_option maxRecDepth 20000 in
theorem gX8_leads__X8_leads : GoodIn wsX8_leads_ (wsV RX8 134 RX8 yX8_leads wsX8_leads) := goodIn_app (goodIn_of _ (by decide +kernel)) ggX8_leads__X8_leads
theorem dX8_leads__0 : decode cX8_leads_ 0 = .ok (.aload_n 0, 1) := by decide +kernel
theorem dX8_leads__1 : decode cX8_leads_ 1 = .ok (.iload_n 2, 1) := by decide +kernel
theorem dX8_leads__2 : decode cX8_leads_ 2 = .ok (.lload 4, 2) := by decide +kernel
theorem dX8_leads__4 : decode cX8_leads_ 4 = .ok (.invokevirtual 134, 3) := by decide +kernel
theorem dX8_leads__7 : decode cX8_leads_ 7 = .ok (.istore 6, 2) := by decide +kernel
theorem dX8_leads__9 : decode cX8_leads_ 9 = .ok (.iload_n 1, 1) := by decide +kernel
theorem dX8_leads__10 : decode cX8_leads_ 10 = .ok (.iconst 3, 1) := by decide +kernel
theorem dX8_leads__11 : decode cX8_leads_ 11 = .ok (.if_icmp .ne 6, 3) := by decide +kernel
theorem dX8_leads__14 : decode cX8_leads_ 14 = .ok (.iload 6, 2) := by decide +kernel
theorem dX8_leads__16 : decode cX8_leads_ 16 = .ok (.ireturn, 1) := by decide +kernel
theorem dX8_leads__17 : decode cX8_leads_ 17 = .ok (.aload_n 0, 1) := by decide +kernel
theorem dX8_leads__18 : decode cX8_leads_ 18 = .ok (.iload_n 3, 1) := by decide +kernel
theorem dX8_leads__19 : decode cX8_leads_ 19 = .ok (.lload 4, 2) := by decide +kernel
theorem dX8_leads__21 : decode cX8_leads_ 21 = .ok (.invokevirtual 134, 3) := by decide +kernel
theorem dX8_leads__24 : decode cX8_leads_ 24 = .ok (.istore 7, 2) := by decide +kernel
theorem dX8_leads__26 : decode cX8_leads_ 26 = .ok (.iload_n 1, 1) := by decide +kernel
theorem dX8_leads__27 : decode cX8_leads_ 27 = .ok (.tableswitch 70 0 2 #[25, 40, 55], 25) := by decide +kernel
theorem dX8_leads__52 : decode cX8_leads_ 52 = .ok (.iload 6, 2) := by decide +kernel
theorem dX8_leads__54 : decode cX8_leads_ 54 = .ok (.bipush 16, 2) := by decide +kernel
theorem dX8_leads__56 : decode cX8_leads_ 56 = .ok (.if_icmp .eq 8, 3) := by decide +kernel
theorem dX8_leads__59 : decode cX8_leads_ 59 = .ok (.iload 6, 2) := by decide +kernel
theorem dX8_leads__61 : decode cX8_leads_ 61 = .ok (.goto 5, 3) := by decide +kernel
theorem dX8_leads__64 : decode cX8_leads_ 64 = .ok (.iload 7, 2) := by decide +kernel
theorem dX8_leads__66 : decode cX8_leads_ 66 = .ok (.ireturn, 1) := by decide +kernel
theorem dX8_leads__67 : decode cX8_leads_ 67 = .ok (.iload 6, 2) := by decide +kernel
theorem dX8_leads__69 : decode cX8_leads_ 69 = .ok (.iload 7, 2) := by decide +kernel
theorem dX8_leads__71 : decode cX8_leads_ 71 = .ok (.if_icmp .ne 8, 3) := by decide +kernel
theorem dX8_leads__74 : decode cX8_leads_ 74 = .ok (.iload 6, 2) := by decide +kernel
theorem dX8_leads__76 : decode cX8_leads_ 76 = .ok (.goto 5, 3) := by decide +kernel
theorem dX8_leads__79 : decode cX8_leads_ 79 = .ok (.bipush 16, 2) := by decide +kernel
theorem dX8_leads__81 : decode cX8_leads_ 81 = .ok (.ireturn, 1) := by decide +kernel
theorem dX8_leads__82 : decode cX8_leads_ 82 = .ok (.iload 7, 2) := by decide +kernel
theorem dX8_leads__84 : decode cX8_leads_ 84 = .ok (.bipush 16, 2) := by decide +kernel
theorem dX8_leads__86 : decode cX8_leads_ 86 = .ok (.if_icmp .ne 8, 3) := by decide +kernel
theorem dX8_leads__89 : decode cX8_leads_ 89 = .ok (.iload 6, 2) := by decide +kernel
theorem dX8_leads__91 : decode cX8_leads_ 91 = .ok (.goto 5, 3) := by decide +kernel
theorem dX8_leads__94 : decode cX8_leads_ 94 = .ok (.bipush 16, 2) := by decide +kernel
theorem dX8_leads__96 : decode cX8_leads_ 96 = .ok (.ireturn, 1) := by decide +kernel
theorem dX8_leads__97 : decode cX8_leads_ 97 = .ok (.bipush 17, 2) := by decide +kernel
theorem dX8_leads__99 : decode cX8_leads_ 99 = .ok (.iload 6, 2) := by decide +kernel
theorem dX8_leads__101 : decode cX8_leads_ 101 = .ok (.imul, 1) := by decide +kernel
theorem dX8_leads__102 : decode cX8_leads_ 102 = .ok (.iload 7, 2) := by decide +kernel
theorem dX8_leads__104 : decode cX8_leads_ 104 = .ok (.iadd, 1) := by decide +kernel
theorem dX8_leads__105 : decode cX8_leads_ 105 = .ok (.ireturn, 1) := by decide +kernel
theorem dX8_cuts_0 : decode cX8_cuts 0 = .ok (.lload_n 1, 1) := by decide +kernel
theorem dX8_cuts_1 : decode cX8_cuts 1 = .ok (.ldc2_w 137, 3) := by decide +kernel
theorem dX8_cuts_4 : decode cX8_cuts 4 = .ok (.lcmp, 1) := by decide +kernel
theorem dX8_cuts_5 : decode cX8_cuts 5 = .ok (.ifCond .lt 4, 3) := by decide +kernel
theorem dX8_cuts_8 : decode cX8_cuts 8 = .ok (.return_, 1) := by decide +kernel
theorem dX8_cuts_9 : decode cX8_cuts 9 = .ok (.aload_n 0, 1) := by decide +kernel
theorem dX8_cuts_10 : decode cX8_cuts 10 = .ok (.getfield 139, 3) := by decide +kernel
theorem dX8_cuts_13 : decode cX8_cuts 13 = .ok (.istore_n 3, 1) := by decide +kernel
theorem dX8_cuts_14 : decode cX8_cuts 14 = .ok (.iload_n 3, 1) := by decide +kernel
theorem dX8_cuts_15 : decode cX8_cuts 15 = .ok (.ifCond .le 22, 3) := by decide +kernel
theorem dX8_cuts_18 : decode cX8_cuts 18 = .ok (.aload_n 0, 1) := by decide +kernel
theorem dX8_cuts_19 : decode cX8_cuts 19 = .ok (.getfield 23, 3) := by decide +kernel
theorem dX8_cuts_22 : decode cX8_cuts 22 = .ok (.iload_n 3, 1) := by decide +kernel
theorem dX8_cuts_23 : decode cX8_cuts 23 = .ok (.iconst 1, 1) := by decide +kernel
theorem dX8_cuts_24 : decode cX8_cuts 24 = .ok (.isub, 1) := by decide +kernel
theorem dX8_cuts_25 : decode cX8_cuts 25 = .ok (.laload, 1) := by decide +kernel
theorem dX8_cuts_26 : decode cX8_cuts 26 = .ok (.lload_n 1, 1) := by decide +kernel
theorem dX8_cuts_27 : decode cX8_cuts 27 = .ok (.lcmp, 1) := by decide +kernel
theorem dX8_cuts_28 : decode cX8_cuts 28 = .ok (.ifCond .le 9, 3) := by decide +kernel
theorem dX8_cuts_31 : decode cX8_cuts 31 = .ok (.iinc 3 (-1), 3) := by decide +kernel
theorem dX8_cuts_34 : decode cX8_cuts 34 = .ok (.goto (-20), 3) := by decide +kernel
theorem dX8_cuts_37 : decode cX8_cuts 37 = .ok (.iload_n 3, 1) := by decide +kernel
theorem dX8_cuts_38 : decode cX8_cuts 38 = .ok (.ifCond .le 17, 3) := by decide +kernel
theorem dX8_cuts_41 : decode cX8_cuts 41 = .ok (.aload_n 0, 1) := by decide +kernel
theorem dX8_cuts_42 : decode cX8_cuts 42 = .ok (.getfield 23, 3) := by decide +kernel
theorem dX8_cuts_45 : decode cX8_cuts 45 = .ok (.iload_n 3, 1) := by decide +kernel
theorem dX8_cuts_46 : decode cX8_cuts 46 = .ok (.iconst 1, 1) := by decide +kernel
theorem dX8_cuts_47 : decode cX8_cuts 47 = .ok (.isub, 1) := by decide +kernel
theorem dX8_cuts_48 : decode cX8_cuts 48 = .ok (.laload, 1) := by decide +kernel
theorem dX8_cuts_49 : decode cX8_cuts 49 = .ok (.lload_n 1, 1) := by decide +kernel
theorem dX8_cuts_50 : decode cX8_cuts 50 = .ok (.lcmp, 1) := by decide +kernel
theorem dX8_cuts_51 : decode cX8_cuts 51 = .ok (.ifCond .ne 4, 3) := by decide +kernel
theorem dX8_cuts_54 : decode cX8_cuts 54 = .ok (.return_, 1) := by decide +kernel
theorem dX8_cuts_55 : decode cX8_cuts 55 = .ok (.aload_n 0, 1) := by decide +kernel
theorem dX8_cuts_56 : decode cX8_cuts 56 = .ok (.getfield 139, 3) := by decide +kernel
theorem dX8_cuts_59 : decode cX8_cuts 59 = .ok (.istore 4, 2) := by decide +kernel
theorem dX8_cuts_61 : decode cX8_cuts 61 = .ok (.iload 4, 2) := by decide +kernel
theorem dX8_cuts_63 : decode cX8_cuts 63 = .ok (.iload_n 3, 1) := by decide +kernel
theorem dX8_cuts_64 : decode cX8_cuts 64 = .ok (.if_icmp .le 25, 3) := by decide +kernel
theorem dX8_cuts_67 : decode cX8_cuts 67 = .ok (.aload_n 0, 1) := by decide +kernel
theorem dX8_cuts_68 : decode cX8_cuts 68 = .ok (.getfield 23, 3) := by decide +kernel
theorem dX8_cuts_71 : decode cX8_cuts 71 = .ok (.iload 4, 2) := by decide +kernel
theorem dX8_cuts_73 : decode cX8_cuts 73 = .ok (.aload_n 0, 1) := by decide +kernel
theorem dX8_cuts_74 : decode cX8_cuts 74 = .ok (.getfield 23, 3) := by decide +kernel
theorem dX8_cuts_77 : decode cX8_cuts 77 = .ok (.iload 4, 2) := by decide +kernel
theorem dX8_cuts_79 : decode cX8_cuts 79 = .ok (.iconst 1, 1) := by decide +kernel
theorem dX8_cuts_80 : decode cX8_cuts 80 = .ok (.isub, 1) := by decide +kernel
theorem dX8_cuts_81 : decode cX8_cuts 81 = .ok (.laload, 1) := by decide +kernel
theorem dX8_cuts_82 : decode cX8_cuts 82 = .ok (.lastore, 1) := by decide +kernel
theorem dX8_cuts_83 : decode cX8_cuts 83 = .ok (.iinc 4 (-1), 3) := by decide +kernel
theorem dX8_cuts_86 : decode cX8_cuts 86 = .ok (.goto (-25), 3) := by decide +kernel
theorem dX8_cuts_89 : decode cX8_cuts 89 = .ok (.aload_n 0, 1) := by decide +kernel
theorem dX8_cuts_90 : decode cX8_cuts 90 = .ok (.getfield 23, 3) := by decide +kernel
theorem dX8_cuts_93 : decode cX8_cuts 93 = .ok (.iload_n 3, 1) := by decide +kernel
theorem dX8_cuts_94 : decode cX8_cuts 94 = .ok (.lload_n 1, 1) := by decide +kernel
theorem dX8_cuts_95 : decode cX8_cuts 95 = .ok (.lastore, 1) := by decide +kernel
theorem dX8_cuts_96 : decode cX8_cuts 96 = .ok (.aload_n 0, 1) := by decide +kernel
theorem dX8_cuts_97 : decode cX8_cuts 97 = .ok (.dup, 1) := by decide +kernel
theorem dX8_cuts_98 : decode cX8_cuts 98 = .ok (.getfield 139, 3) := by decide +kernel
theorem dX8_cuts_101 : decode cX8_cuts 101 = .ok (.iconst 1, 1) := by decide +kernel
theorem dX8_cuts_102 : decode cX8_cuts 102 = .ok (.iadd, 1) := by decide +kernel
theorem dX8_cuts_103 : decode cX8_cuts 103 = .ok (.putfield 139, 3) := by decide +kernel
theorem dX8_cuts_106 : decode cX8_cuts 106 = .ok (.return_, 1) := by decide +kernel
set_option maxRecDepth 20000 in
theorem ggX8_cutsOf_X8_cuts : GoodIn wsX8_cutsOf wsX8_cuts := goodIn_r _ [8, 9, 10, 11, 15, 16, 17, 18, 19, 20, 21, 22, 23, 24, 25, 26, 27, 28, 29, 30, 31, 32, 33, 34, 35, 36, 37, 38, 39, 40, 41, 42, 43, 44, 45, 46, 47, 48] (by decide +kernel) (by decide +kernel)
set_option maxRecDepth 20000 in
theorem gX8_cutsOf_X8_cuts : GoodIn wsX8_cutsOf (wsV RX8 143 RX8 yX8_cuts wsX8_cuts) := goodIn_app (goodIn_of _ (by decide +kernel)) ggX8_cutsOf_X8_cuts
set_option maxRecDepth 20000 in
theorem ggX8_cutsOf_X8_size : GoodIn wsX8_cutsOf wsX8_size := goodIn_r _ [14] (by decide +kernel) (by decide +kernel)
set_option maxRecDepth 20000 in
theorem gX8_cutsOf_X8_size : GoodIn wsX8_cutsOf (va_wsS RX8 102 yX8_size wsX8_size) := goodIn_app (goodIn_of _ (by decide +kernel)) ggX8_cutsOf_X8_size
theorem dX8_cutsOf_0 : decode cX8_cutsOf 0 = .ok (.iconst 0, 1) := by decide +kernel
theorem dX8_cutsOf_1 : decode cX8_cutsOf 1 = .ok (.istore_n 2, 1) := by decide +kernel
theorem dX8_cutsOf_2 : decode cX8_cutsOf 2 = .ok (.iload_n 2, 1) := by decide +kernel
theorem dX8_cutsOf_3 : decode cX8_cutsOf 3 = .ok (.aload_n 0, 1) := by decide +kernel
theorem dX8_cutsOf_4 : decode cX8_cutsOf 4 = .ok (.getfield 7, 3) := by decide +kernel
theorem dX8_cutsOf_7 : decode cX8_cutsOf 7 = .ok (.iload_n 1, 1) := by decide +kernel
end
section
theorem dX8_cutsOf_8 : decode cX8_cutsOf 8 = .ok (.iaload, 1) := by decide +kernel
theorem dX8_cutsOf_9 : decode cX8_cutsOf 9 = .ok (.if_icmp .ge 54, 3) := by decide +kernel
theorem dX8_cutsOf_12 : decode cX8_cutsOf 12 = .ok (.aload_n 0, 1) := by decide +kernel
theorem dX8_cutsOf_13 : decode cX8_cutsOf 13 = .ok (.aload_n 0, 1) := by decide +kernel
theorem dX8_cutsOf_14 : decode cX8_cutsOf 14 = .ok (.getfield 13, 3) := by decide +kernel
theorem dX8_cutsOf_17 : decode cX8_cutsOf 17 = .ok (.bipush 64, 2) := by decide +kernel
theorem dX8_cutsOf_19 : decode cX8_cutsOf 19 = .ok (.iload_n 1, 1) := by decide +kernel
theorem dX8_cutsOf_20 : decode cX8_cutsOf 20 = .ok (.imul, 1) := by decide +kernel
theorem dX8_cutsOf_21 : decode cX8_cutsOf 21 = .ok (.iload_n 2, 1) := by decide +kernel
theorem dX8_cutsOf_22 : decode cX8_cutsOf 22 = .ok (.iadd, 1) := by decide +kernel
theorem dX8_cutsOf_23 : decode cX8_cutsOf 23 = .ok (.laload, 1) := by decide +kernel
theorem dX8_cutsOf_24 : decode cX8_cutsOf 24 = .ok (.invokevirtual 143, 3) := by decide +kernel
theorem dX8_cutsOf_27 : decode cX8_cutsOf 27 = .ok (.aload_n 0, 1) := by decide +kernel
theorem dX8_cutsOf_28 : decode cX8_cutsOf 28 = .ok (.aload_n 0, 1) := by decide +kernel
theorem dX8_cutsOf_29 : decode cX8_cutsOf 29 = .ok (.getfield 13, 3) := by decide +kernel
theorem dX8_cutsOf_32 : decode cX8_cutsOf 32 = .ok (.bipush 64, 2) := by decide +kernel
theorem dX8_cutsOf_34 : decode cX8_cutsOf 34 = .ok (.iload_n 1, 1) := by decide +kernel
theorem dX8_cutsOf_35 : decode cX8_cutsOf 35 = .ok (.imul, 1) := by decide +kernel
theorem dX8_cutsOf_36 : decode cX8_cutsOf 36 = .ok (.iload_n 2, 1) := by decide +kernel
theorem dX8_cutsOf_37 : decode cX8_cutsOf 37 = .ok (.iadd, 1) := by decide +kernel
theorem dX8_cutsOf_38 : decode cX8_cutsOf 38 = .ok (.laload, 1) := by decide +kernel
theorem dX8_cutsOf_39 : decode cX8_cutsOf 39 = .ok (.aload_n 0, 1) := by decide +kernel
theorem dX8_cutsOf_40 : decode cX8_cutsOf 40 = .ok (.getfield 17, 3) := by decide +kernel
theorem dX8_cutsOf_43 : decode cX8_cutsOf 43 = .ok (.bipush 64, 2) := by decide +kernel
theorem dX8_cutsOf_45 : decode cX8_cutsOf 45 = .ok (.iload_n 1, 1) := by decide +kernel
theorem dX8_cutsOf_46 : decode cX8_cutsOf 46 = .ok (.imul, 1) := by decide +kernel
theorem dX8_cutsOf_47 : decode cX8_cutsOf 47 = .ok (.iload_n 2, 1) := by decide +kernel
theorem dX8_cutsOf_48 : decode cX8_cutsOf 48 = .ok (.iadd, 1) := by decide +kernel
theorem dX8_cutsOf_49 : decode cX8_cutsOf 49 = .ok (.iaload, 1) := by decide +kernel
theorem dX8_cutsOf_50 : decode cX8_cutsOf 50 = .ok (.invokestatic 102, 3) := by decide +kernel
theorem dX8_cutsOf_53 : decode cX8_cutsOf 53 = .ok (.ladd, 1) := by decide +kernel
theorem dX8_cutsOf_54 : decode cX8_cutsOf 54 = .ok (.invokevirtual 143, 3) := by decide +kernel
theorem dX8_cutsOf_57 : decode cX8_cutsOf 57 = .ok (.iinc 2 1, 3) := by decide +kernel
theorem dX8_cutsOf_60 : decode cX8_cutsOf 60 = .ok (.goto (-58), 3) := by decide +kernel
theorem dX8_cutsOf_63 : decode cX8_cutsOf 63 = .ok (.return_, 1) := by decide +kernel
set_option maxRecDepth 20000 in
theorem ggX8_makeSpans_X8_cuts : GoodIn wsX8_makeSpans wsX8_cuts := goodIn_r _ [8, 9, 1, 2, 36, 37, 38, 39, 40, 41, 42, 43, 44, 45, 46, 47, 48, 49, 50, 51, 52, 53, 54, 55, 56, 57, 58, 59, 60, 61, 62, 63, 64, 65, 66, 67, 68, 69] (by decide +kernel) (by decide +kernel)
set_option maxRecDepth 20000 in
theorem gX8_makeSpans_X8_cuts : GoodIn wsX8_makeSpans (wsV RX8 143 RX8 yX8_cuts wsX8_cuts) := goodIn_app (goodIn_of _ (by decide +kernel)) ggX8_makeSpans_X8_cuts
set_option maxRecDepth 20000 in
theorem ggX8_makeSpans_X8_cutsOf : GoodIn wsX8_makeSpans wsX8_cutsOf := goodIn_r _ [13, 14, 15, 16, 4, 5, 6, 7, 8, 9, 1, 2, 17, 18, 19, 36, 37, 38, 39, 40, 41, 42, 43, 44, 45, 46, 47, 48, 49, 50, 51, 52, 53, 54, 55, 56, 57, 58, 59, 60, 61, 62, 63, 64, 65, 66, 67, 68, 69] (by decide +kernel) (by decide +kernel)
set_option maxRecDepth 20000 in
theorem gX8_makeSpans_X8_cutsOf : GoodIn wsX8_makeSpans (wsV RX8 147 RX8 yX8_cutsOf wsX8_cutsOf) := goodIn_app (goodIn_of _ (by decide +kernel)) ggX8_makeSpans_X8_cutsOf
set_option maxRecDepth 20000 in
theorem ggX8_makeSpans_X8_leads_ : GoodIn wsX8_makeSpans wsX8_leads_ := goodIn_r _ [23, 24, 25, 26, 7, 27, 28, 29, 30, 31, 32, 14, 15, 16, 33, 34, 35, 17, 18, 19, 36, 37, 38, 39, 40, 41, 42, 43, 44, 45, 46, 47, 48, 49, 50, 51, 52, 53, 54, 55, 56, 57, 58, 59, 60, 61, 62, 63, 64, 65, 66, 67, 68, 69] (by decide +kernel) (by decide +kernel)
set_option maxRecDepth 20000 in
theorem gX8_makeSpans_X8_leads_ : GoodIn wsX8_makeSpans (wsV RX8 151 RX8 yX8_leads_ wsX8_leads_) := goodIn_app (goodIn_of _ (by decide +kernel)) ggX8_makeSpans_X8_leads_
theorem dX8_makeSpans_0 : decode cX8_makeSpans 0 = .ok (.aload_n 0, 1) := by decide +kernel
theorem dX8_makeSpans_1 : decode cX8_makeSpans 1 = .ok (.iconst 0, 1) := by decide +kernel
theorem dX8_makeSpans_2 : decode cX8_makeSpans 2 = .ok (.putfield 139, 3) := by decide +kernel
theorem dX8_makeSpans_5 : decode cX8_makeSpans 5 = .ok (.aload_n 0, 1) := by decide +kernel
theorem dX8_makeSpans_6 : decode cX8_makeSpans 6 = .ok (.lconst 0, 1) := by decide +kernel
theorem dX8_makeSpans_7 : decode cX8_makeSpans 7 = .ok (.invokevirtual 143, 3) := by decide +kernel
theorem dX8_makeSpans_10 : decode cX8_makeSpans 10 = .ok (.aload_n 0, 1) := by decide +kernel
theorem dX8_makeSpans_11 : decode cX8_makeSpans 11 = .ok (.iload_n 2, 1) := by decide +kernel
theorem dX8_makeSpans_12 : decode cX8_makeSpans 12 = .ok (.invokevirtual 147, 3) := by decide +kernel
theorem dX8_makeSpans_15 : decode cX8_makeSpans 15 = .ok (.iload_n 1, 1) := by decide +kernel
theorem dX8_makeSpans_16 : decode cX8_makeSpans 16 = .ok (.iconst 3, 1) := by decide +kernel
theorem dX8_makeSpans_17 : decode cX8_makeSpans 17 = .ok (.if_icmp .eq 8, 3) := by decide +kernel
theorem dX8_makeSpans_20 : decode cX8_makeSpans 20 = .ok (.aload_n 0, 1) := by decide +kernel
theorem dX8_makeSpans_21 : decode cX8_makeSpans 21 = .ok (.iload_n 3, 1) := by decide +kernel
theorem dX8_makeSpans_22 : decode cX8_makeSpans 22 = .ok (.invokevirtual 147, 3) := by decide +kernel
theorem dX8_makeSpans_25 : decode cX8_makeSpans 25 = .ok (.iconst 0, 1) := by decide +kernel
theorem dX8_makeSpans_26 : decode cX8_makeSpans 26 = .ok (.istore 4, 2) := by decide +kernel
theorem dX8_makeSpans_28 : decode cX8_makeSpans 28 = .ok (.iconst 0, 1) := by decide +kernel
theorem dX8_makeSpans_29 : decode cX8_makeSpans 29 = .ok (.istore 5, 2) := by decide +kernel
theorem dX8_makeSpans_31 : decode cX8_makeSpans 31 = .ok (.iload 5, 2) := by decide +kernel
theorem dX8_makeSpans_33 : decode cX8_makeSpans 33 = .ok (.aload_n 0, 1) := by decide +kernel
theorem dX8_makeSpans_34 : decode cX8_makeSpans 34 = .ok (.getfield 139, 3) := by decide +kernel
theorem dX8_makeSpans_37 : decode cX8_makeSpans 37 = .ok (.if_icmp .ge 73, 3) := by decide +kernel
theorem dX8_makeSpans_40 : decode cX8_makeSpans 40 = .ok (.aload_n 0, 1) := by decide +kernel
theorem dX8_makeSpans_41 : decode cX8_makeSpans 41 = .ok (.iload_n 1, 1) := by decide +kernel
theorem dX8_makeSpans_42 : decode cX8_makeSpans 42 = .ok (.iload_n 2, 1) := by decide +kernel
theorem dX8_makeSpans_43 : decode cX8_makeSpans 43 = .ok (.iload_n 3, 1) := by decide +kernel
theorem dX8_makeSpans_44 : decode cX8_makeSpans 44 = .ok (.aload_n 0, 1) := by decide +kernel
theorem dX8_makeSpans_45 : decode cX8_makeSpans 45 = .ok (.getfield 23, 3) := by decide +kernel
theorem dX8_makeSpans_48 : decode cX8_makeSpans 48 = .ok (.iload 5, 2) := by decide +kernel
theorem dX8_makeSpans_50 : decode cX8_makeSpans 50 = .ok (.laload, 1) := by decide +kernel
theorem dX8_makeSpans_51 : decode cX8_makeSpans 51 = .ok (.invokevirtual 151, 3) := by decide +kernel
theorem dX8_makeSpans_54 : decode cX8_makeSpans 54 = .ok (.istore 6, 2) := by decide +kernel
theorem dX8_makeSpans_56 : decode cX8_makeSpans 56 = .ok (.iload 4, 2) := by decide +kernel
theorem dX8_makeSpans_58 : decode cX8_makeSpans 58 = .ok (.ifCond .le 20, 3) := by decide +kernel
theorem dX8_makeSpans_61 : decode cX8_makeSpans 61 = .ok (.aload_n 0, 1) := by decide +kernel
theorem dX8_makeSpans_62 : decode cX8_makeSpans 62 = .ok (.getfield 26, 3) := by decide +kernel
theorem dX8_makeSpans_65 : decode cX8_makeSpans 65 = .ok (.iload 4, 2) := by decide +kernel
theorem dX8_makeSpans_67 : decode cX8_makeSpans 67 = .ok (.iconst 1, 1) := by decide +kernel
theorem dX8_makeSpans_68 : decode cX8_makeSpans 68 = .ok (.isub, 1) := by decide +kernel
theorem dX8_makeSpans_69 : decode cX8_makeSpans 69 = .ok (.iaload, 1) := by decide +kernel
theorem dX8_makeSpans_70 : decode cX8_makeSpans 70 = .ok (.iload 6, 2) := by decide +kernel
theorem dX8_makeSpans_72 : decode cX8_makeSpans 72 = .ok (.if_icmp .ne 6, 3) := by decide +kernel
theorem dX8_makeSpans_75 : decode cX8_makeSpans 75 = .ok (.goto 29, 3) := by decide +kernel
theorem dX8_makeSpans_78 : decode cX8_makeSpans 78 = .ok (.aload_n 0, 1) := by decide +kernel
theorem dX8_makeSpans_79 : decode cX8_makeSpans 79 = .ok (.getfield 23, 3) := by decide +kernel
theorem dX8_makeSpans_82 : decode cX8_makeSpans 82 = .ok (.iload 4, 2) := by decide +kernel
theorem dX8_makeSpans_84 : decode cX8_makeSpans 84 = .ok (.aload_n 0, 1) := by decide +kernel
theorem dX8_makeSpans_85 : decode cX8_makeSpans 85 = .ok (.getfield 23, 3) := by decide +kernel
theorem dX8_makeSpans_88 : decode cX8_makeSpans 88 = .ok (.iload 5, 2) := by decide +kernel
theorem dX8_makeSpans_90 : decode cX8_makeSpans 90 = .ok (.laload, 1) := by decide +kernel
theorem dX8_makeSpans_91 : decode cX8_makeSpans 91 = .ok (.lastore, 1) := by decide +kernel
theorem dX8_makeSpans_92 : decode cX8_makeSpans 92 = .ok (.aload_n 0, 1) := by decide +kernel
theorem dX8_makeSpans_93 : decode cX8_makeSpans 93 = .ok (.getfield 26, 3) := by decide +kernel
theorem dX8_makeSpans_96 : decode cX8_makeSpans 96 = .ok (.iload 4, 2) := by decide +kernel
theorem dX8_makeSpans_98 : decode cX8_makeSpans 98 = .ok (.iload 6, 2) := by decide +kernel
theorem dX8_makeSpans_100 : decode cX8_makeSpans 100 = .ok (.iastore, 1) := by decide +kernel
theorem dX8_makeSpans_101 : decode cX8_makeSpans 101 = .ok (.iinc 4 1, 3) := by decide +kernel
theorem dX8_makeSpans_104 : decode cX8_makeSpans 104 = .ok (.iinc 5 1, 3) := by decide +kernel
theorem dX8_makeSpans_107 : decode cX8_makeSpans 107 = .ok (.goto (-76), 3) := by decide +kernel
theorem dX8_makeSpans_110 : decode cX8_makeSpans 110 = .ok (.aload_n 0, 1) := by decide +kernel
theorem dX8_makeSpans_111 : decode cX8_makeSpans 111 = .ok (.iload 4, 2) := by decide +kernel
theorem dX8_makeSpans_113 : decode cX8_makeSpans 113 = .ok (.putfield 139, 3) := by decide +kernel
theorem dX8_makeSpans_116 : decode cX8_makeSpans 116 = .ok (.return_, 1) := by decide +kernel
theorem dX8_end_0 : decode cX8_end 0 = .ok (.iload_n 1, 1) := by decide +kernel
theorem dX8_end_1 : decode cX8_end 1 = .ok (.iconst 1, 1) := by decide +kernel
theorem dX8_end_2 : decode cX8_end 2 = .ok (.iadd, 1) := by decide +kernel
theorem dX8_end_3 : decode cX8_end 3 = .ok (.aload_n 0, 1) := by decide +kernel
theorem dX8_end_4 : decode cX8_end 4 = .ok (.getfield 139, 3) := by decide +kernel
theorem dX8_end_7 : decode cX8_end 7 = .ok (.if_icmp .ge 14, 3) := by decide +kernel
theorem dX8_end_10 : decode cX8_end 10 = .ok (.aload_n 0, 1) := by decide +kernel
theorem dX8_end_11 : decode cX8_end 11 = .ok (.getfield 23, 3) := by decide +kernel
theorem dX8_end_14 : decode cX8_end 14 = .ok (.iload_n 1, 1) := by decide +kernel
theorem dX8_end_15 : decode cX8_end 15 = .ok (.iconst 1, 1) := by decide +kernel
theorem dX8_end_16 : decode cX8_end 16 = .ok (.iadd, 1) := by decide +kernel
theorem dX8_end_17 : decode cX8_end 17 = .ok (.laload, 1) := by decide +kernel
theorem dX8_end_18 : decode cX8_end 18 = .ok (.goto 6, 3) := by decide +kernel
theorem dX8_end_21 : decode cX8_end 21 = .ok (.ldc2_w 137, 3) := by decide +kernel
theorem dX8_end_24 : decode cX8_end 24 = .ok (.lreturn, 1) := by decide +kernel
set_option maxRecDepth 20000 in
theorem ggX8_spans_X8_isBook : GoodIn wsX8_spans wsX8_isBook := goodIn_r _ [5, 6, 7, 4, 8] (by decide +kernel) (by decide +kernel)
set_option maxRecDepth 20000 in
theorem gX8_spans_X8_isBook : GoodIn wsX8_spans (va_wsS RX8 109 yX8_isBook wsX8_isBook) := goodIn_app (goodIn_of _ (by decide +kernel)) ggX8_spans_X8_isBook
set_option maxRecDepth 20000 in
theorem ggX8_spans_X8_makeSpans : GoodIn wsX8_spans wsX8_makeSpans := goodIn_r _ [12, 1, 13, 14, 15, 16, 17, 4, 18, 19, 20, 21, 22, 23, 24, 25, 26, 27, 28, 29, 30, 31, 32, 33, 34, 35, 36, 37, 38, 39, 40, 41, 42, 43, 44, 45, 46, 47, 48, 49, 50, 51, 52, 53, 54, 55, 56, 57, 58, 59, 60, 61, 62, 63, 64, 65, 66, 67, 68, 69, 70, 71, 72, 73, 74, 75, 76, 77, 78, 79] (by decide +kernel) (by decide +kernel)
set_option maxRecDepth 20000 in
theorem gX8_spans_X8_makeSpans : GoodIn wsX8_spans (wsV RX8 154 RX8 yX8_makeSpans wsX8_makeSpans) := goodIn_app (goodIn_of _ (by decide +kernel)) ggX8_spans_X8_makeSpans
theorem dX8_spans_0 : decode cX8_spans 0 = .ok (.iload_n 1, 1) := by decide +kernel
theorem dX8_spans_1 : decode cX8_spans 1 = .ok (.invokestatic 109, 3) := by decide +kernel
theorem dX8_spans_4 : decode cX8_spans 4 = .ok (.ifCond .ne 5, 3) := by decide +kernel
theorem dX8_spans_7 : decode cX8_spans 7 = .ok (.iconst (-1), 1) := by decide +kernel
theorem dX8_spans_8 : decode cX8_spans 8 = .ok (.ireturn, 1) := by decide +kernel
theorem dX8_spans_9 : decode cX8_spans 9 = .ok (.aload_n 0, 1) := by decide +kernel
theorem dX8_spans_10 : decode cX8_spans 10 = .ok (.iconst 3, 1) := by decide +kernel
theorem dX8_spans_11 : decode cX8_spans 11 = .ok (.iload_n 1, 1) := by decide +kernel
theorem dX8_spans_12 : decode cX8_spans 12 = .ok (.iload_n 1, 1) := by decide +kernel
theorem dX8_spans_13 : decode cX8_spans 13 = .ok (.invokevirtual 154, 3) := by decide +kernel
theorem dX8_spans_16 : decode cX8_spans 16 = .ok (.aload_n 0, 1) := by decide +kernel
theorem dX8_spans_17 : decode cX8_spans 17 = .ok (.getfield 139, 3) := by decide +kernel
theorem dX8_spans_20 : decode cX8_spans 20 = .ok (.ireturn, 1) := by decide +kernel
set_option maxRecDepth 20000 in
theorem ggX8_span_X8_isBook : GoodIn wsX8_span wsX8_isBook := goodIn_r _ [8, 9, 10, 7, 11] (by decide +kernel) (by decide +kernel)
set_option maxRecDepth 20000 in
theorem gX8_span_X8_isBook : GoodIn wsX8_span (va_wsS RX8 109 yX8_isBook wsX8_isBook) := goodIn_app (goodIn_of _ (by decide +kernel)) ggX8_span_X8_isBook
set_option maxRecDepth 20000 in
theorem ggX8_span_X8_makeSpans : GoodIn wsX8_span wsX8_makeSpans := goodIn_r _ [15, 2, 3, 4, 16, 17, 18, 7, 19, 20, 21, 22, 23, 24, 25, 26, 27, 28, 29, 30, 31, 32, 33, 34, 35, 36, 37, 38, 39, 40, 41, 42, 43, 44, 45, 46, 51, 52, 53, 54, 55, 56, 57, 58, 59, 60, 61, 62, 63, 64, 65, 66, 67, 68, 69, 70, 71, 72, 73, 74, 75, 76, 77, 78, 79, 80, 81, 82, 83, 84] (by decide +kernel) (by decide +kernel)
set_option maxRecDepth 20000 in
theorem gX8_span_X8_makeSpans : GoodIn wsX8_span (wsV RX8 154 RX8 yX8_makeSpans wsX8_makeSpans) := goodIn_app (goodIn_of _ (by decide +kernel)) ggX8_span_X8_makeSpans
set_option maxRecDepth 20000 in
theorem ggX8_span_X8_lies : GoodIn wsX8_span wsX8_lies := goodIn_r _ [11] (by decide +kernel) (by decide +kernel)
set_option maxRecDepth 20000 in
theorem gX8_span_X8_lies : GoodIn wsX8_span (va_wsS RX8 92 yX8_lies wsX8_lies) := goodIn_app (goodIn_of _ (by decide +kernel)) ggX8_span_X8_lies
set_option maxRecDepth 20000 in
theorem ggX8_span_X8_end : GoodIn wsX8_span wsX8_end := goodIn_r _ [50, 2, 3, 20, 51, 52, 53, 54, 55, 56, 57, 58, 59, 60, 61, 62, 63, 64, 65, 66, 67, 68, 69, 70, 71, 72, 73, 74, 75, 76, 77, 78, 79, 80, 81, 82, 83, 84] (by decide +kernel) (by decide +kernel)
set_option maxRecDepth 20000 in
theorem gX8_span_X8_end : GoodIn wsX8_span (wsV RX8 157 RX8 yX8_end wsX8_end) := goodIn_app (goodIn_of _ (by decide +kernel)) ggX8_span_X8_end
theorem dX8_span_0 : decode cX8_span 0 = .ok (.iload_n 1, 1) := by decide +kernel
theorem dX8_span_1 : decode cX8_span 1 = .ok (.invokestatic 109, 3) := by decide +kernel
theorem dX8_span_4 : decode cX8_span 4 = .ok (.ifCond .ne 7, 3) := by decide +kernel
theorem dX8_span_7 : decode cX8_span 7 = .ok (.ldc2_w 124, 3) := by decide +kernel
theorem dX8_span_10 : decode cX8_span 10 = .ok (.lreturn, 1) := by decide +kernel
theorem dX8_span_11 : decode cX8_span 11 = .ok (.aload_n 0, 1) := by decide +kernel
theorem dX8_span_12 : decode cX8_span 12 = .ok (.iconst 3, 1) := by decide +kernel
theorem dX8_span_13 : decode cX8_span 13 = .ok (.iload_n 1, 1) := by decide +kernel
theorem dX8_span_14 : decode cX8_span 14 = .ok (.iload_n 1, 1) := by decide +kernel
theorem dX8_span_15 : decode cX8_span 15 = .ok (.invokevirtual 154, 3) := by decide +kernel
theorem dX8_span_18 : decode cX8_span 18 = .ok (.iload_n 2, 1) := by decide +kernel
theorem dX8_span_19 : decode cX8_span 19 = .ok (.iconst 0, 1) := by decide +kernel
theorem dX8_span_20 : decode cX8_span 20 = .ok (.aload_n 0, 1) := by decide +kernel
theorem dX8_span_21 : decode cX8_span 21 = .ok (.getfield 139, 3) := by decide +kernel
theorem dX8_span_24 : decode cX8_span 24 = .ok (.iconst 1, 1) := by decide +kernel
theorem dX8_span_25 : decode cX8_span 25 = .ok (.isub, 1) := by decide +kernel
theorem dX8_span_26 : decode cX8_span 26 = .ok (.invokestatic 92, 3) := by decide +kernel
theorem dX8_span_29 : decode cX8_span 29 = .ok (.ifCond .ne 7, 3) := by decide +kernel
theorem dX8_span_32 : decode cX8_span 32 = .ok (.ldc2_w 124, 3) := by decide +kernel
theorem dX8_span_35 : decode cX8_span 35 = .ok (.lreturn, 1) := by decide +kernel
theorem dX8_span_36 : decode cX8_span 36 = .ok (.iload_n 3, 1) := by decide +kernel
theorem dX8_span_37 : decode cX8_span 37 = .ok (.ifCond .ne 12, 3) := by decide +kernel
theorem dX8_span_40 : decode cX8_span 40 = .ok (.aload_n 0, 1) := by decide +kernel
theorem dX8_span_41 : decode cX8_span 41 = .ok (.getfield 23, 3) := by decide +kernel
theorem dX8_span_44 : decode cX8_span 44 = .ok (.iload_n 2, 1) := by decide +kernel
theorem dX8_span_45 : decode cX8_span 45 = .ok (.laload, 1) := by decide +kernel
theorem dX8_span_46 : decode cX8_span 46 = .ok (.goto 36, 3) := by decide +kernel
theorem dX8_span_49 : decode cX8_span 49 = .ok (.iload_n 3, 1) := by decide +kernel
theorem dX8_span_50 : decode cX8_span 50 = .ok (.iconst 1, 1) := by decide +kernel
theorem dX8_span_51 : decode cX8_span 51 = .ok (.if_icmp .ne 13, 3) := by decide +kernel
theorem dX8_span_54 : decode cX8_span 54 = .ok (.aload_n 0, 1) := by decide +kernel
theorem dX8_span_55 : decode cX8_span 55 = .ok (.iload_n 2, 1) := by decide +kernel
theorem dX8_span_56 : decode cX8_span 56 = .ok (.invokevirtual 157, 3) := by decide +kernel
theorem dX8_span_59 : decode cX8_span 59 = .ok (.lconst 1, 1) := by decide +kernel
theorem dX8_span_60 : decode cX8_span 60 = .ok (.lsub, 1) := by decide +kernel
theorem dX8_span_61 : decode cX8_span 61 = .ok (.goto 21, 3) := by decide +kernel
theorem dX8_span_64 : decode cX8_span 64 = .ok (.iload_n 3, 1) := by decide +kernel
theorem dX8_span_65 : decode cX8_span 65 = .ok (.iconst 2, 1) := by decide +kernel
theorem dX8_span_66 : decode cX8_span 66 = .ok (.if_icmp .ne 13, 3) := by decide +kernel
theorem dX8_span_69 : decode cX8_span 69 = .ok (.aload_n 0, 1) := by decide +kernel
theorem dX8_span_70 : decode cX8_span 70 = .ok (.getfield 26, 3) := by decide +kernel
theorem dX8_span_73 : decode cX8_span 73 = .ok (.iload_n 2, 1) := by decide +kernel
theorem dX8_span_74 : decode cX8_span 74 = .ok (.iaload, 1) := by decide +kernel
theorem dX8_span_75 : decode cX8_span 75 = .ok (.i2l, 1) := by decide +kernel
theorem dX8_span_76 : decode cX8_span 76 = .ok (.goto 6, 3) := by decide +kernel
theorem dX8_span_79 : decode cX8_span 79 = .ok (.ldc2_w 124, 3) := by decide +kernel
theorem dX8_span_82 : decode cX8_span 82 = .ok (.lreturn, 1) := by decide +kernel
set_option maxRecDepth 20000 in
theorem ggX8_share_X8_isBook : GoodIn wsX8_share wsX8_isBook := goodIn_r _ [8, 9, 10, 7, 11] (by decide +kernel) (by decide +kernel)
set_option maxRecDepth 20000 in
theorem gX8_share_X8_isBook : GoodIn wsX8_share (va_wsS RX8 109 yX8_isBook wsX8_isBook) := goodIn_app (goodIn_of _ (by decide +kernel)) ggX8_share_X8_isBook
set_option maxRecDepth 20000 in
theorem ggX8_share_X8_lies : GoodIn wsX8_share wsX8_lies := goodIn_r _ [11] (by decide +kernel) (by decide +kernel)
set_option maxRecDepth 20000 in
theorem gX8_share_X8_lies : GoodIn wsX8_share (va_wsS RX8 92 yX8_lies wsX8_lies) := goodIn_app (goodIn_of _ (by decide +kernel)) ggX8_share_X8_lies
set_option maxRecDepth 20000 in
theorem ggX8_share_X8_makeSpans : GoodIn wsX8_share wsX8_makeSpans := goodIn_r _ [15, 2, 4, 3, 16, 17, 18, 7, 19, 20, 21, 22, 23, 24, 25, 26, 27, 28, 29, 30, 31, 32, 33, 34, 35, 36, 37, 38, 39, 40, 41, 42, 43, 44, 45, 46, 51, 52, 53, 54, 55, 56, 57, 58, 59, 60, 61, 62, 63, 64, 65, 66, 67, 68, 69, 70, 71, 72, 73, 74, 75, 76, 77, 78, 79, 80, 81, 82, 83, 84] (by decide +kernel) (by decide +kernel)
set_option maxRecDepth 20000 in
theorem gX8_share_X8_makeSpans : GoodIn wsX8_share (wsV RX8 154 RX8 yX8_makeSpans wsX8_makeSpans) := goodIn_app (goodIn_of _ (by decide +kernel)) ggX8_share_X8_makeSpans
set_option maxRecDepth 20000 in
theorem ggX8_share_X8_end : GoodIn wsX8_share wsX8_end := goodIn_r _ [50, 2, 4, 20, 51, 52, 53, 54, 55, 56, 57, 58, 59, 60, 61, 62, 63, 64, 65, 66, 67, 68, 69, 70, 71, 72, 73, 74, 75, 76, 77, 78, 79, 80, 81, 82, 83, 84] (by decide +kernel) (by decide +kernel)
set_option maxRecDepth 20000 in
theorem gX8_share_X8_end : GoodIn wsX8_share (wsV RX8 157 RX8 yX8_end wsX8_end) := goodIn_app (goodIn_of _ (by decide +kernel)) ggX8_share_X8_end
theorem dX8_share_0 : decode cX8_share 0 = .ok (.iload_n 1, 1) := by decide +kernel
theorem dX8_share_1 : decode cX8_share 1 = .ok (.invokestatic 109, 3) := by decide +kernel
theorem dX8_share_4 : decode cX8_share 4 = .ok (.ifCond .eq 13, 3) := by decide +kernel
theorem dX8_share_7 : decode cX8_share 7 = .ok (.iload_n 2, 1) := by decide +kernel
theorem dX8_share_8 : decode cX8_share 8 = .ok (.iconst 0, 1) := by decide +kernel
theorem dX8_share_9 : decode cX8_share 9 = .ok (.bipush 16, 2) := by decide +kernel
theorem dX8_share_11 : decode cX8_share 11 = .ok (.invokestatic 92, 3) := by decide +kernel
theorem dX8_share_14 : decode cX8_share 14 = .ok (.ifCond .ne 7, 3) := by decide +kernel
theorem dX8_share_17 : decode cX8_share 17 = .ok (.ldc2_w 124, 3) := by decide +kernel
theorem dX8_share_20 : decode cX8_share 20 = .ok (.lreturn, 1) := by decide +kernel
theorem dX8_share_21 : decode cX8_share 21 = .ok (.aload_n 0, 1) := by decide +kernel
theorem dX8_share_22 : decode cX8_share 22 = .ok (.iconst 3, 1) := by decide +kernel
theorem dX8_share_23 : decode cX8_share 23 = .ok (.iload_n 1, 1) := by decide +kernel
theorem dX8_share_24 : decode cX8_share 24 = .ok (.iload_n 1, 1) := by decide +kernel
theorem dX8_share_25 : decode cX8_share 25 = .ok (.invokevirtual 154, 3) := by decide +kernel
theorem dX8_share_28 : decode cX8_share 28 = .ok (.lconst 0, 1) := by decide +kernel
theorem dX8_share_29 : decode cX8_share 29 = .ok (.lstore_n 3, 1) := by decide +kernel
theorem dX8_share_30 : decode cX8_share 30 = .ok (.iconst 0, 1) := by decide +kernel
theorem dX8_share_31 : decode cX8_share 31 = .ok (.istore 5, 2) := by decide +kernel
theorem dX8_share_33 : decode cX8_share 33 = .ok (.iload 5, 2) := by decide +kernel
theorem dX8_share_35 : decode cX8_share 35 = .ok (.aload_n 0, 1) := by decide +kernel
theorem dX8_share_36 : decode cX8_share 36 = .ok (.getfield 139, 3) := by decide +kernel
theorem dX8_share_39 : decode cX8_share 39 = .ok (.if_icmp .ge 41, 3) := by decide +kernel
theorem dX8_share_42 : decode cX8_share 42 = .ok (.lload_n 3, 1) := by decide +kernel
theorem dX8_share_43 : decode cX8_share 43 = .ok (.aload_n 0, 1) := by decide +kernel
theorem dX8_share_44 : decode cX8_share 44 = .ok (.getfield 26, 3) := by decide +kernel
theorem dX8_share_47 : decode cX8_share 47 = .ok (.iload 5, 2) := by decide +kernel
theorem dX8_share_49 : decode cX8_share 49 = .ok (.iaload, 1) := by decide +kernel
theorem dX8_share_50 : decode cX8_share 50 = .ok (.iload_n 2, 1) := by decide +kernel
theorem dX8_share_51 : decode cX8_share 51 = .ok (.if_icmp .ne 20, 3) := by decide +kernel
theorem dX8_share_54 : decode cX8_share 54 = .ok (.aload_n 0, 1) := by decide +kernel
theorem dX8_share_55 : decode cX8_share 55 = .ok (.iload 5, 2) := by decide +kernel
theorem dX8_share_57 : decode cX8_share 57 = .ok (.invokevirtual 157, 3) := by decide +kernel
theorem dX8_share_60 : decode cX8_share 60 = .ok (.aload_n 0, 1) := by decide +kernel
theorem dX8_share_61 : decode cX8_share 61 = .ok (.getfield 23, 3) := by decide +kernel
theorem dX8_share_64 : decode cX8_share 64 = .ok (.iload 5, 2) := by decide +kernel
theorem dX8_share_66 : decode cX8_share 66 = .ok (.laload, 1) := by decide +kernel
theorem dX8_share_67 : decode cX8_share 67 = .ok (.lsub, 1) := by decide +kernel
theorem dX8_share_68 : decode cX8_share 68 = .ok (.goto 4, 3) := by decide +kernel
theorem dX8_share_71 : decode cX8_share 71 = .ok (.lconst 0, 1) := by decide +kernel
theorem dX8_share_72 : decode cX8_share 72 = .ok (.ladd, 1) := by decide +kernel
theorem dX8_share_73 : decode cX8_share 73 = .ok (.lstore_n 3, 1) := by decide +kernel
theorem dX8_share_74 : decode cX8_share 74 = .ok (.iinc 5 1, 3) := by decide +kernel
theorem dX8_share_77 : decode cX8_share 77 = .ok (.goto (-44), 3) := by decide +kernel
theorem dX8_share_80 : decode cX8_share 80 = .ok (.lload_n 3, 1) := by decide +kernel
theorem dX8_share_81 : decode cX8_share 81 = .ok (.lreturn, 1) := by decide +kernel
set_option maxRecDepth 20000 in
theorem ggX8_same_X8_isBook : GoodIn wsX8_same wsX8_isBook := goodIn_r _ [4, 5, 6, 3, 7] (by decide +kernel) (by decide +kernel)
set_option maxRecDepth 20000 in
theorem gX8_same_X8_isBook : GoodIn wsX8_same (va_wsS RX8 109 yX8_isBook wsX8_isBook) := goodIn_app (goodIn_of _ (by decide +kernel)) ggX8_same_X8_isBook
set_option maxRecDepth 20000 in
theorem ggX8_same_X8_differ : GoodIn wsX8_same wsX8_differ := goodIn_r _ [11, 12, 13, 14, 15, 1, 2, 3, 4, 5, 6, 7, 16, 17, 18, 19, 20, 21, 22, 23, 24, 25, 26, 27, 28, 29, 30, 31, 32, 33, 34, 35, 36, 37, 38, 39, 40, 41, 42, 43, 44, 45, 46, 47, 48, 49, 50, 51, 52, 53, 54, 55, 56, 57, 58, 59, 60, 61, 62, 63, 64, 65, 66, 67, 68, 69, 70, 71, 72, 73, 74, 75, 76, 77, 78, 79, 80, 81, 82, 83, 84, 85, 86, 87, 88] (by decide +kernel) (by decide +kernel)
set_option maxRecDepth 20000 in
theorem gX8_same_X8_differ : GoodIn wsX8_same (wsV RX8 160 RX8 yX8_differ wsX8_differ) := goodIn_app (goodIn_of _ (by decide +kernel)) ggX8_same_X8_differ
theorem dX8_same_0 : decode cX8_same 0 = .ok (.iload_n 1, 1) := by decide +kernel
theorem dX8_same_1 : decode cX8_same 1 = .ok (.invokestatic 109, 3) := by decide +kernel
theorem dX8_same_4 : decode cX8_same 4 = .ok (.ifCond .eq 10, 3) := by decide +kernel
theorem dX8_same_7 : decode cX8_same 7 = .ok (.iload_n 2, 1) := by decide +kernel
theorem dX8_same_8 : decode cX8_same 8 = .ok (.invokestatic 109, 3) := by decide +kernel
theorem dX8_same_11 : decode cX8_same 11 = .ok (.ifCond .ne 5, 3) := by decide +kernel
theorem dX8_same_14 : decode cX8_same 14 = .ok (.iconst (-1), 1) := by decide +kernel
theorem dX8_same_15 : decode cX8_same 15 = .ok (.ireturn, 1) := by decide +kernel
theorem dX8_same_16 : decode cX8_same 16 = .ok (.aload_n 0, 1) := by decide +kernel
theorem dX8_same_17 : decode cX8_same 17 = .ok (.iload_n 1, 1) := by decide +kernel
theorem dX8_same_18 : decode cX8_same 18 = .ok (.iload_n 2, 1) := by decide +kernel
theorem dX8_same_19 : decode cX8_same 19 = .ok (.iconst 1, 1) := by decide +kernel
theorem dX8_same_20 : decode cX8_same 20 = .ok (.invokevirtual 160, 3) := by decide +kernel
theorem dX8_same_23 : decode cX8_same 23 = .ok (.lconst 0, 1) := by decide +kernel
theorem dX8_same_24 : decode cX8_same 24 = .ok (.lcmp, 1) := by decide +kernel
theorem dX8_same_25 : decode cX8_same 25 = .ok (.ifCond .ne 7, 3) := by decide +kernel
theorem dX8_same_28 : decode cX8_same 28 = .ok (.iconst 1, 1) := by decide +kernel
theorem dX8_same_29 : decode cX8_same 29 = .ok (.goto 4, 3) := by decide +kernel
theorem dX8_same_32 : decode cX8_same 32 = .ok (.iconst 0, 1) := by decide +kernel
theorem dX8_same_33 : decode cX8_same 33 = .ok (.ireturn, 1) := by decide +kernel
set_option maxRecDepth 20000 in
theorem ggX8_differ_X8_isBook : GoodIn wsX8_differ wsX8_isBook := goodIn_r _ [8, 9, 10, 7, 11] (by decide +kernel) (by decide +kernel)
set_option maxRecDepth 20000 in
theorem gX8_differ_X8_isBook : GoodIn wsX8_differ (va_wsS RX8 109 yX8_isBook wsX8_isBook) := goodIn_app (goodIn_of _ (by decide +kernel)) ggX8_differ_X8_isBook
set_option maxRecDepth 20000 in
theorem ggX8_differ_X8_lies : GoodIn wsX8_differ wsX8_lies := goodIn_r _ [11] (by decide +kernel) (by decide +kernel)
set_option maxRecDepth 20000 in
theorem gX8_differ_X8_lies : GoodIn wsX8_differ (va_wsS RX8 92 yX8_lies wsX8_lies) := goodIn_app (goodIn_of _ (by decide +kernel)) ggX8_differ_X8_lies
set_option maxRecDepth 20000 in
theorem ggX8_differ_X8_makeSpans : GoodIn wsX8_differ wsX8_makeSpans := goodIn_r _ [15, 2, 4, 3, 16, 17, 18, 7, 19, 20, 21, 22, 23, 24, 25, 26, 27, 28, 29, 30, 31, 32, 33, 34, 35, 36, 37, 38, 39, 40, 41, 42, 43, 44, 45, 46, 51, 52, 53, 54, 55, 56, 57, 58, 59, 60, 61, 62, 63, 64, 65, 66, 67, 68, 69, 70, 71, 72, 73, 74, 75, 76, 77, 78, 79, 80, 81, 82, 83, 84] (by decide +kernel) (by decide +kernel)
set_option maxRecDepth 20000 in
theorem gX8_differ_X8_makeSpans : GoodIn wsX8_differ (wsV RX8 154 RX8 yX8_makeSpans wsX8_makeSpans) := goodIn_app (goodIn_of _ (by decide +kernel)) ggX8_differ_X8_makeSpans
set_option maxRecDepth 20000 in
theorem ggX8_differ_X8_end : GoodIn wsX8_differ wsX8_end := goodIn_r _ [50, 2, 4, 20, 51, 52, 53, 54, 55, 56, 57, 58, 59, 60, 61, 62, 63, 64, 65, 66, 67, 68, 69, 70, 71, 72, 73, 74, 75, 76, 77, 78, 79, 80, 81, 82, 83, 84] (by decide +kernel) (by decide +kernel)
set_option maxRecDepth 20000 in
theorem gX8_differ_X8_end : GoodIn wsX8_differ (wsV RX8 157 RX8 yX8_end wsX8_end) := goodIn_app (goodIn_of _ (by decide +kernel)) ggX8_differ_X8_end
theorem dX8_differ_0 : decode cX8_differ 0 = .ok (.iload_n 1, 1) := by decide +kernel
theorem dX8_differ_1 : decode cX8_differ 1 = .ok (.invokestatic 109, 3) := by decide +kernel
theorem dX8_differ_4 : decode cX8_differ 4 = .ok (.ifCond .eq 19, 3) := by decide +kernel
theorem dX8_differ_7 : decode cX8_differ 7 = .ok (.iload_n 2, 1) := by decide +kernel
theorem dX8_differ_8 : decode cX8_differ 8 = .ok (.invokestatic 109, 3) := by decide +kernel
theorem dX8_differ_11 : decode cX8_differ 11 = .ok (.ifCond .eq 12, 3) := by decide +kernel
theorem dX8_differ_14 : decode cX8_differ 14 = .ok (.iload_n 3, 1) := by decide +kernel
theorem dX8_differ_15 : decode cX8_differ 15 = .ok (.iconst 0, 1) := by decide +kernel
theorem dX8_differ_16 : decode cX8_differ 16 = .ok (.iconst 1, 1) := by decide +kernel
theorem dX8_differ_17 : decode cX8_differ 17 = .ok (.invokestatic 92, 3) := by decide +kernel
theorem dX8_differ_20 : decode cX8_differ 20 = .ok (.ifCond .ne 7, 3) := by decide +kernel
theorem dX8_differ_23 : decode cX8_differ 23 = .ok (.ldc2_w 124, 3) := by decide +kernel
theorem dX8_differ_26 : decode cX8_differ 26 = .ok (.lreturn, 1) := by decide +kernel
theorem dX8_differ_27 : decode cX8_differ 27 = .ok (.aload_n 0, 1) := by decide +kernel
theorem dX8_differ_28 : decode cX8_differ 28 = .ok (.iconst 4, 1) := by decide +kernel
theorem dX8_differ_29 : decode cX8_differ 29 = .ok (.iload_n 1, 1) := by decide +kernel
theorem dX8_differ_30 : decode cX8_differ 30 = .ok (.iload_n 2, 1) := by decide +kernel
theorem dX8_differ_31 : decode cX8_differ 31 = .ok (.invokevirtual 154, 3) := by decide +kernel
theorem dX8_differ_34 : decode cX8_differ 34 = .ok (.ldc2_w 124, 3) := by decide +kernel
theorem dX8_differ_37 : decode cX8_differ 37 = .ok (.lstore 4, 2) := by decide +kernel
theorem dX8_differ_39 : decode cX8_differ 39 = .ok (.lconst 0, 1) := by decide +kernel
theorem dX8_differ_40 : decode cX8_differ 40 = .ok (.lstore 6, 2) := by decide +kernel
theorem dX8_differ_42 : decode cX8_differ 42 = .ok (.iconst 0, 1) := by decide +kernel
theorem dX8_differ_43 : decode cX8_differ 43 = .ok (.istore 8, 2) := by decide +kernel
theorem dX8_differ_45 : decode cX8_differ 45 = .ok (.iload 8, 2) := by decide +kernel
theorem dX8_differ_47 : decode cX8_differ 47 = .ok (.aload_n 0, 1) := by decide +kernel
theorem dX8_differ_48 : decode cX8_differ 48 = .ok (.getfield 139, 3) := by decide +kernel
theorem dX8_differ_51 : decode cX8_differ 51 = .ok (.if_icmp .ge 77, 3) := by decide +kernel
theorem dX8_differ_54 : decode cX8_differ 54 = .ok (.aload_n 0, 1) := by decide +kernel
theorem dX8_differ_55 : decode cX8_differ 55 = .ok (.getfield 26, 3) := by decide +kernel
theorem dX8_differ_58 : decode cX8_differ 58 = .ok (.iload 8, 2) := by decide +kernel
theorem dX8_differ_60 : decode cX8_differ 60 = .ok (.iaload, 1) := by decide +kernel
theorem dX8_differ_61 : decode cX8_differ 61 = .ok (.bipush 17, 2) := by decide +kernel
theorem dX8_differ_63 : decode cX8_differ 63 = .ok (.idiv, 1) := by decide +kernel
theorem dX8_differ_64 : decode cX8_differ 64 = .ok (.aload_n 0, 1) := by decide +kernel
theorem dX8_differ_65 : decode cX8_differ 65 = .ok (.getfield 26, 3) := by decide +kernel
theorem dX8_differ_68 : decode cX8_differ 68 = .ok (.iload 8, 2) := by decide +kernel
theorem dX8_differ_70 : decode cX8_differ 70 = .ok (.iaload, 1) := by decide +kernel
theorem dX8_differ_71 : decode cX8_differ 71 = .ok (.bipush 17, 2) := by decide +kernel
theorem dX8_differ_73 : decode cX8_differ 73 = .ok (.irem, 1) := by decide +kernel
theorem dX8_differ_74 : decode cX8_differ 74 = .ok (.if_icmp .ne 6, 3) := by decide +kernel
theorem dX8_differ_77 : decode cX8_differ 77 = .ok (.goto 45, 3) := by decide +kernel
theorem dX8_differ_80 : decode cX8_differ 80 = .ok (.lload 4, 2) := by decide +kernel
theorem dX8_differ_82 : decode cX8_differ 82 = .ok (.ldc2_w 124, 3) := by decide +kernel
theorem dX8_differ_85 : decode cX8_differ 85 = .ok (.lcmp, 1) := by decide +kernel
theorem dX8_differ_86 : decode cX8_differ 86 = .ok (.ifCond .ne 13, 3) := by decide +kernel
theorem dX8_differ_89 : decode cX8_differ 89 = .ok (.aload_n 0, 1) := by decide +kernel
theorem dX8_differ_90 : decode cX8_differ 90 = .ok (.getfield 23, 3) := by decide +kernel
theorem dX8_differ_93 : decode cX8_differ 93 = .ok (.iload 8, 2) := by decide +kernel
theorem dX8_differ_95 : decode cX8_differ 95 = .ok (.laload, 1) := by decide +kernel
theorem dX8_differ_96 : decode cX8_differ 96 = .ok (.goto 5, 3) := by decide +kernel
theorem dX8_differ_99 : decode cX8_differ 99 = .ok (.lload 4, 2) := by decide +kernel
theorem dX8_differ_101 : decode cX8_differ 101 = .ok (.lstore 4, 2) := by decide +kernel
theorem dX8_differ_103 : decode cX8_differ 103 = .ok (.lload 6, 2) := by decide +kernel
theorem dX8_differ_105 : decode cX8_differ 105 = .ok (.aload_n 0, 1) := by decide +kernel
theorem dX8_differ_106 : decode cX8_differ 106 = .ok (.iload 8, 2) := by decide +kernel
theorem dX8_differ_108 : decode cX8_differ 108 = .ok (.invokevirtual 157, 3) := by decide +kernel
theorem dX8_differ_111 : decode cX8_differ 111 = .ok (.aload_n 0, 1) := by decide +kernel
theorem dX8_differ_112 : decode cX8_differ 112 = .ok (.getfield 23, 3) := by decide +kernel
theorem dX8_differ_115 : decode cX8_differ 115 = .ok (.iload 8, 2) := by decide +kernel
theorem dX8_differ_117 : decode cX8_differ 117 = .ok (.laload, 1) := by decide +kernel
theorem dX8_differ_118 : decode cX8_differ 118 = .ok (.lsub, 1) := by decide +kernel
theorem dX8_differ_119 : decode cX8_differ 119 = .ok (.ladd, 1) := by decide +kernel
theorem dX8_differ_120 : decode cX8_differ 120 = .ok (.lstore 6, 2) := by decide +kernel
theorem dX8_differ_122 : decode cX8_differ 122 = .ok (.iinc 8 1, 3) := by decide +kernel
theorem dX8_differ_125 : decode cX8_differ 125 = .ok (.goto (-80), 3) := by decide +kernel
theorem dX8_differ_128 : decode cX8_differ 128 = .ok (.iload_n 3, 1) := by decide +kernel
theorem dX8_differ_129 : decode cX8_differ 129 = .ok (.ifCond .ne 8, 3) := by decide +kernel
theorem dX8_differ_132 : decode cX8_differ 132 = .ok (.lload 4, 2) := by decide +kernel
theorem dX8_differ_134 : decode cX8_differ 134 = .ok (.goto 5, 3) := by decide +kernel
theorem dX8_differ_137 : decode cX8_differ 137 = .ok (.lload 6, 2) := by decide +kernel
theorem dX8_differ_139 : decode cX8_differ 139 = .ok (.lreturn, 1) := by decide +kernel
set_option maxRecDepth 20000 in
theorem ggX8_spanOf_X8_end : GoodIn wsX8_spanOf wsX8_end := goodIn_r _ [5, 6, 7, 8, 9, 10, 11, 12, 13, 14, 15, 16, 17, 18, 19, 20, 21, 22, 23, 24, 25, 26, 27, 28, 29, 30, 31, 32, 33, 34, 35, 36, 37, 38, 39, 40, 41, 42] (by decide +kernel) (by decide +kernel)
set_option maxRecDepth 20000 in
theorem gX8_spanOf_X8_end : GoodIn wsX8_spanOf (wsV RX8 157 RX8 yX8_end wsX8_end) := goodIn_app (goodIn_of _ (by decide +kernel)) ggX8_spanOf_X8_end
theorem dX8_spanOf_0 : decode cX8_spanOf 0 = .ok (.iconst 0, 1) := by decide +kernel
theorem dX8_spanOf_1 : decode cX8_spanOf 1 = .ok (.istore_n 3, 1) := by decide +kernel
theorem dX8_spanOf_2 : decode cX8_spanOf 2 = .ok (.aload_n 0, 1) := by decide +kernel
theorem dX8_spanOf_3 : decode cX8_spanOf 3 = .ok (.iload_n 3, 1) := by decide +kernel
theorem dX8_spanOf_4 : decode cX8_spanOf 4 = .ok (.invokevirtual 157, 3) := by decide +kernel
theorem dX8_spanOf_7 : decode cX8_spanOf 7 = .ok (.lload_n 1, 1) := by decide +kernel
theorem dX8_spanOf_8 : decode cX8_spanOf 8 = .ok (.lcmp, 1) := by decide +kernel
theorem dX8_spanOf_9 : decode cX8_spanOf 9 = .ok (.ifCond .gt 9, 3) := by decide +kernel
theorem dX8_spanOf_12 : decode cX8_spanOf 12 = .ok (.iinc 3 1, 3) := by decide +kernel
theorem dX8_spanOf_15 : decode cX8_spanOf 15 = .ok (.goto (-13), 3) := by decide +kernel
theorem dX8_spanOf_18 : decode cX8_spanOf 18 = .ok (.iload_n 3, 1) := by decide +kernel
theorem dX8_spanOf_19 : decode cX8_spanOf 19 = .ok (.ireturn, 1) := by decide +kernel
set_option maxRecDepth 20000 in
theorem ggX8_isOne_X8_spanOf : GoodIn wsX8_isOne wsX8_spanOf := goodIn_r _ [5, 6, 7, 8, 4, 9, 10, 11, 12, 16, 17, 18, 19, 20, 21, 22, 23, 24, 25, 26, 27, 28, 29, 30, 31, 32, 33, 34, 35, 36, 37, 38, 39, 40, 41, 42, 43, 44, 45, 46, 47, 48, 49] (by decide +kernel) (by decide +kernel)
set_option maxRecDepth 20000 in
theorem gX8_isOne_X8_spanOf : GoodIn wsX8_isOne (wsV RX8 164 RX8 yX8_spanOf wsX8_spanOf) := goodIn_app (goodIn_of _ (by decide +kernel)) ggX8_isOne_X8_spanOf
set_option maxRecDepth 20000 in
theorem ggX8_isOne_X8_size : GoodIn wsX8_isOne wsX8_size := goodIn_r _ [15] (by decide +kernel) (by decide +kernel)
set_option maxRecDepth 20000 in
theorem gX8_isOne_X8_size : GoodIn wsX8_isOne (va_wsS RX8 102 yX8_size wsX8_size) := goodIn_app (goodIn_of _ (by decide +kernel)) ggX8_isOne_X8_size
theorem dX8_isOne_0 : decode cX8_isOne 0 = .ok (.aload_n 0, 1) := by decide +kernel
theorem dX8_isOne_1 : decode cX8_isOne 1 = .ok (.lload_n 1, 1) := by decide +kernel
theorem dX8_isOne_2 : decode cX8_isOne 2 = .ok (.invokevirtual 164, 3) := by decide +kernel
theorem dX8_isOne_5 : decode cX8_isOne 5 = .ok (.aload_n 0, 1) := by decide +kernel
theorem dX8_isOne_6 : decode cX8_isOne 6 = .ok (.lload_n 1, 1) := by decide +kernel
theorem dX8_isOne_7 : decode cX8_isOne 7 = .ok (.iload_n 3, 1) := by decide +kernel
theorem dX8_isOne_8 : decode cX8_isOne 8 = .ok (.invokestatic 102, 3) := by decide +kernel
theorem dX8_isOne_11 : decode cX8_isOne 11 = .ok (.ladd, 1) := by decide +kernel
theorem dX8_isOne_12 : decode cX8_isOne 12 = .ok (.lconst 1, 1) := by decide +kernel
theorem dX8_isOne_13 : decode cX8_isOne 13 = .ok (.lsub, 1) := by decide +kernel
theorem dX8_isOne_14 : decode cX8_isOne 14 = .ok (.invokevirtual 164, 3) := by decide +kernel
theorem dX8_isOne_17 : decode cX8_isOne 17 = .ok (.if_icmp .ne 7, 3) := by decide +kernel
theorem dX8_isOne_20 : decode cX8_isOne 20 = .ok (.iconst 1, 1) := by decide +kernel
theorem dX8_isOne_21 : decode cX8_isOne 21 = .ok (.goto 4, 3) := by decide +kernel
theorem dX8_isOne_24 : decode cX8_isOne 24 = .ok (.iconst 0, 1) := by decide +kernel
theorem dX8_isOne_25 : decode cX8_isOne 25 = .ok (.ireturn, 1) := by decide +kernel
theorem dX8_mixedAt_0 : decode cX8_mixedAt 0 = .ok (.iconst 0, 1) := by decide +kernel
theorem dX8_mixedAt_1 : decode cX8_mixedAt 1 = .ok (.istore 4, 2) := by decide +kernel
theorem dX8_mixedAt_3 : decode cX8_mixedAt 3 = .ok (.iload 4, 2) := by decide +kernel
theorem dX8_mixedAt_5 : decode cX8_mixedAt 5 = .ok (.aload_n 0, 1) := by decide +kernel
theorem dX8_mixedAt_6 : decode cX8_mixedAt 6 = .ok (.getfield 29, 3) := by decide +kernel
theorem dX8_mixedAt_9 : decode cX8_mixedAt 9 = .ok (.iload_n 3, 1) := by decide +kernel
theorem dX8_mixedAt_10 : decode cX8_mixedAt 10 = .ok (.iaload, 1) := by decide +kernel
theorem dX8_mixedAt_11 : decode cX8_mixedAt 11 = .ok (.if_icmp .ge 30, 3) := by decide +kernel
theorem dX8_mixedAt_14 : decode cX8_mixedAt 14 = .ok (.aload_n 0, 1) := by decide +kernel
theorem dX8_mixedAt_15 : decode cX8_mixedAt 15 = .ok (.getfield 32, 3) := by decide +kernel
theorem dX8_mixedAt_18 : decode cX8_mixedAt 18 = .ok (.sipush 600, 3) := by decide +kernel
theorem dX8_mixedAt_21 : decode cX8_mixedAt 21 = .ok (.iload_n 3, 1) := by decide +kernel
theorem dX8_mixedAt_22 : decode cX8_mixedAt 22 = .ok (.imul, 1) := by decide +kernel
theorem dX8_mixedAt_23 : decode cX8_mixedAt 23 = .ok (.iload 4, 2) := by decide +kernel
theorem dX8_mixedAt_25 : decode cX8_mixedAt 25 = .ok (.iadd, 1) := by decide +kernel
theorem dX8_mixedAt_26 : decode cX8_mixedAt 26 = .ok (.laload, 1) := by decide +kernel
theorem dX8_mixedAt_27 : decode cX8_mixedAt 27 = .ok (.lload_n 1, 1) := by decide +kernel
theorem dX8_mixedAt_28 : decode cX8_mixedAt 28 = .ok (.lcmp, 1) := by decide +kernel
theorem dX8_mixedAt_29 : decode cX8_mixedAt 29 = .ok (.ifCond .ne 6, 3) := by decide +kernel
theorem dX8_mixedAt_32 : decode cX8_mixedAt 32 = .ok (.iload 4, 2) := by decide +kernel
theorem dX8_mixedAt_34 : decode cX8_mixedAt 34 = .ok (.ireturn, 1) := by decide +kernel
theorem dX8_mixedAt_35 : decode cX8_mixedAt 35 = .ok (.iinc 4 1, 3) := by decide +kernel
theorem dX8_mixedAt_38 : decode cX8_mixedAt 38 = .ok (.goto (-35), 3) := by decide +kernel
theorem dX8_mixedAt_41 : decode cX8_mixedAt 41 = .ok (.iconst (-1), 1) := by decide +kernel
theorem dX8_mixedAt_42 : decode cX8_mixedAt 42 = .ok (.ireturn, 1) := by decide +kernel
set_option maxRecDepth 20000 in
theorem ggX8_setOf_X8_isOne : GoodIn wsX8_setOf wsX8_isOne := goodIn_r _ [7, 8, 9, 10, 6, 11, 12, 13, 14, 15, 16, 17, 18, 19, 20, 21, 28, 29, 30, 31, 32, 33, 34, 35, 36, 37, 38, 39, 40, 41, 42, 43, 44, 45, 46, 47, 48, 49, 50, 51, 52, 53, 54, 55, 56, 57, 58, 59, 60, 61] (by decide +kernel) (by decide +kernel)
set_option maxRecDepth 20000 in
theorem gX8_setOf_X8_isOne : GoodIn wsX8_setOf (wsV RX8 168 RX8 yX8_isOne wsX8_isOne) := goodIn_app (goodIn_of _ (by decide +kernel)) ggX8_setOf_X8_isOne
set_option maxRecDepth 20000 in
theorem ggX8_setOf_X8_spanOf : GoodIn wsX8_setOf wsX8_spanOf := goodIn_r _ [11, 12, 13, 14, 6, 15, 16, 17, 18, 28, 29, 30, 31, 32, 33, 34, 35, 36, 37, 38, 39, 40, 41, 42, 43, 44, 45, 46, 47, 48, 49, 50, 51, 52, 53, 54, 55, 56, 57, 58, 59, 60, 61] (by decide +kernel) (by decide +kernel)
set_option maxRecDepth 20000 in
theorem gX8_setOf_X8_spanOf : GoodIn wsX8_setOf (wsV RX8 164 RX8 yX8_spanOf wsX8_spanOf) := goodIn_app (goodIn_of _ (by decide +kernel)) ggX8_setOf_X8_spanOf
set_option maxRecDepth 20000 in
theorem ggX8_setOf_X8_mixedAt : GoodIn wsX8_setOf wsX8_mixedAt := goodIn_r _ [25, 26, 27, 28, 29, 30, 31, 32, 33, 34, 35, 36, 37, 38, 39, 40, 41, 42, 43, 44, 45, 46, 47, 48, 49, 50, 51, 52, 53, 54, 55, 56, 57, 58, 59, 60, 61] (by decide +kernel) (by decide +kernel)
set_option maxRecDepth 20000 in
theorem gX8_setOf_X8_mixedAt : GoodIn wsX8_setOf (wsV RX8 172 RX8 yX8_mixedAt wsX8_mixedAt) := goodIn_app (goodIn_of _ (by decide +kernel)) ggX8_setOf_X8_mixedAt
theorem dX8_setOf_0 : decode cX8_setOf 0 = .ok (.aload_n 0, 1) := by decide +kernel
theorem dX8_setOf_1 : decode cX8_setOf 1 = .ok (.lload_n 1, 1) := by decide +kernel
theorem dX8_setOf_2 : decode cX8_setOf 2 = .ok (.iload_n 3, 1) := by decide +kernel
theorem dX8_setOf_3 : decode cX8_setOf 3 = .ok (.invokevirtual 168, 3) := by decide +kernel
theorem dX8_setOf_6 : decode cX8_setOf 6 = .ok (.ifCond .eq 18, 3) := by decide +kernel
theorem dX8_setOf_9 : decode cX8_setOf 9 = .ok (.iconst 1, 1) := by decide +kernel
theorem dX8_setOf_10 : decode cX8_setOf 10 = .ok (.aload_n 0, 1) := by decide +kernel
theorem dX8_setOf_11 : decode cX8_setOf 11 = .ok (.getfield 26, 3) := by decide +kernel
theorem dX8_setOf_14 : decode cX8_setOf 14 = .ok (.aload_n 0, 1) := by decide +kernel
theorem dX8_setOf_15 : decode cX8_setOf 15 = .ok (.lload_n 1, 1) := by decide +kernel
theorem dX8_setOf_16 : decode cX8_setOf 16 = .ok (.invokevirtual 164, 3) := by decide +kernel
theorem dX8_setOf_19 : decode cX8_setOf 19 = .ok (.iaload, 1) := by decide +kernel
theorem dX8_setOf_20 : decode cX8_setOf 20 = .ok (.ishl, 1) := by decide +kernel
theorem dX8_setOf_21 : decode cX8_setOf 21 = .ok (.goto 20, 3) := by decide +kernel
theorem dX8_setOf_24 : decode cX8_setOf 24 = .ok (.aload_n 0, 1) := by decide +kernel
theorem dX8_setOf_25 : decode cX8_setOf 25 = .ok (.getfield 35, 3) := by decide +kernel
theorem dX8_setOf_28 : decode cX8_setOf 28 = .ok (.sipush 600, 3) := by decide +kernel
theorem dX8_setOf_31 : decode cX8_setOf 31 = .ok (.iload_n 3, 1) := by decide +kernel
theorem dX8_setOf_32 : decode cX8_setOf 32 = .ok (.imul, 1) := by decide +kernel
theorem dX8_setOf_33 : decode cX8_setOf 33 = .ok (.aload_n 0, 1) := by decide +kernel
theorem dX8_setOf_34 : decode cX8_setOf 34 = .ok (.lload_n 1, 1) := by decide +kernel
theorem dX8_setOf_35 : decode cX8_setOf 35 = .ok (.iload_n 3, 1) := by decide +kernel
theorem dX8_setOf_36 : decode cX8_setOf 36 = .ok (.invokevirtual 172, 3) := by decide +kernel
theorem dX8_setOf_39 : decode cX8_setOf 39 = .ok (.iadd, 1) := by decide +kernel
theorem dX8_setOf_40 : decode cX8_setOf 40 = .ok (.iaload, 1) := by decide +kernel
theorem dX8_setOf_41 : decode cX8_setOf 41 = .ok (.ireturn, 1) := by decide +kernel
set_option maxRecDepth 20000 in
theorem ggX8_makeSets_X8_size : GoodIn wsX8_makeSets wsX8_size := goodIn_r _ [9] (by decide +kernel) (by decide +kernel)
set_option maxRecDepth 20000 in
theorem gX8_makeSets_X8_size : GoodIn wsX8_makeSets (va_wsS RX8 102 yX8_size wsX8_size) := goodIn_app (goodIn_of _ (by decide +kernel)) ggX8_makeSets_X8_size
set_option maxRecDepth 20000 in
theorem ggX8_makeSets_X8_mixedAt : GoodIn wsX8_makeSets wsX8_mixedAt := goodIn_r _ [13, 1, 4, 32, 33, 34, 35, 36, 37, 38, 39, 40, 41, 42, 43, 44, 45, 46, 47, 48, 49, 50, 51, 52, 53, 54, 55, 56, 57, 58, 59, 60, 61, 62, 63, 64, 65] (by decide +kernel) (by decide +kernel)
set_option maxRecDepth 20000 in
theorem gX8_makeSets_X8_mixedAt : GoodIn wsX8_makeSets (wsV RX8 172 RX8 yX8_mixedAt wsX8_mixedAt) := goodIn_app (goodIn_of _ (by decide +kernel)) ggX8_makeSets_X8_mixedAt
set_option maxRecDepth 20000 in
theorem ggX8_makeSets_X8_setOf : GoodIn wsX8_makeSets wsX8_setOf := goodIn_r _ [17, 18, 5, 19, 20, 21, 8, 22, 23, 24, 25, 26, 27, 28, 29, 30, 2, 3, 31, 6, 7, 9, 10, 11, 12, 13, 1, 4, 32, 33, 34, 35, 36, 37, 38, 39, 40, 41, 42, 43, 44, 45, 46, 47, 48, 49, 50, 51, 52, 53, 54, 55, 56, 57, 58, 59, 60, 61, 62, 63, 64, 65] (by decide +kernel) (by decide +kernel)
set_option maxRecDepth 20000 in
theorem gX8_makeSets_X8_setOf : GoodIn wsX8_makeSets (wsV RX8 176 RX8 yX8_setOf wsX8_setOf) := goodIn_app (goodIn_of _ (by decide +kernel)) ggX8_makeSets_X8_setOf
theorem dX8_makeSets_0 : decode cX8_makeSets 0 = .ok (.aload_n 0, 1) := by decide +kernel
theorem dX8_makeSets_1 : decode cX8_makeSets 1 = .ok (.getfield 29, 3) := by decide +kernel
theorem dX8_makeSets_4 : decode cX8_makeSets 4 = .ok (.bipush 32, 2) := by decide +kernel
theorem dX8_makeSets_6 : decode cX8_makeSets 6 = .ok (.iconst 0, 1) := by decide +kernel
theorem dX8_makeSets_7 : decode cX8_makeSets 7 = .ok (.iastore, 1) := by decide +kernel
theorem dX8_makeSets_8 : decode cX8_makeSets 8 = .ok (.bipush 31, 2) := by decide +kernel
theorem dX8_makeSets_10 : decode cX8_makeSets 10 = .ok (.istore_n 1, 1) := by decide +kernel
theorem dX8_makeSets_11 : decode cX8_makeSets 11 = .ok (.iload_n 1, 1) := by decide +kernel
theorem dX8_makeSets_12 : decode cX8_makeSets 12 = .ok (.ifCond .lt 160, 3) := by decide +kernel
theorem dX8_makeSets_15 : decode cX8_makeSets 15 = .ok (.aload_n 0, 1) := by decide +kernel
theorem dX8_makeSets_16 : decode cX8_makeSets 16 = .ok (.getfield 29, 3) := by decide +kernel
theorem dX8_makeSets_19 : decode cX8_makeSets 19 = .ok (.iload_n 1, 1) := by decide +kernel
theorem dX8_makeSets_20 : decode cX8_makeSets 20 = .ok (.iconst 0, 1) := by decide +kernel
theorem dX8_makeSets_21 : decode cX8_makeSets 21 = .ok (.iastore, 1) := by decide +kernel
theorem dX8_makeSets_22 : decode cX8_makeSets 22 = .ok (.iconst 1, 1) := by decide +kernel
theorem dX8_makeSets_23 : decode cX8_makeSets 23 = .ok (.istore_n 2, 1) := by decide +kernel
theorem dX8_makeSets_24 : decode cX8_makeSets 24 = .ok (.iload_n 2, 1) := by decide +kernel
theorem dX8_makeSets_25 : decode cX8_makeSets 25 = .ok (.aload_n 0, 1) := by decide +kernel
theorem dX8_makeSets_26 : decode cX8_makeSets 26 = .ok (.getfield 139, 3) := by decide +kernel
theorem dX8_makeSets_29 : decode cX8_makeSets 29 = .ok (.if_icmp .ge 137, 3) := by decide +kernel
theorem dX8_makeSets_32 : decode cX8_makeSets 32 = .ok (.aload_n 0, 1) := by decide +kernel
theorem dX8_makeSets_33 : decode cX8_makeSets 33 = .ok (.getfield 23, 3) := by decide +kernel
theorem dX8_makeSets_36 : decode cX8_makeSets 36 = .ok (.iload_n 2, 1) := by decide +kernel
theorem dX8_makeSets_37 : decode cX8_makeSets 37 = .ok (.laload, 1) := by decide +kernel
theorem dX8_makeSets_38 : decode cX8_makeSets 38 = .ok (.iload_n 1, 1) := by decide +kernel
theorem dX8_makeSets_39 : decode cX8_makeSets 39 = .ok (.invokestatic 102, 3) := by decide +kernel
theorem dX8_makeSets_42 : decode cX8_makeSets 42 = .ok (.ldiv, 1) := by decide +kernel
theorem dX8_makeSets_43 : decode cX8_makeSets 43 = .ok (.iload_n 1, 1) := by decide +kernel
theorem dX8_makeSets_44 : decode cX8_makeSets 44 = .ok (.invokestatic 102, 3) := by decide +kernel
theorem dX8_makeSets_47 : decode cX8_makeSets 47 = .ok (.lmul, 1) := by decide +kernel
theorem dX8_makeSets_48 : decode cX8_makeSets 48 = .ok (.lstore_n 3, 1) := by decide +kernel
theorem dX8_makeSets_49 : decode cX8_makeSets 49 = .ok (.lload_n 3, 1) := by decide +kernel
theorem dX8_makeSets_50 : decode cX8_makeSets 50 = .ok (.aload_n 0, 1) := by decide +kernel
theorem dX8_makeSets_51 : decode cX8_makeSets 51 = .ok (.getfield 23, 3) := by decide +kernel
theorem dX8_makeSets_54 : decode cX8_makeSets 54 = .ok (.iload_n 2, 1) := by decide +kernel
theorem dX8_makeSets_55 : decode cX8_makeSets 55 = .ok (.laload, 1) := by decide +kernel
theorem dX8_makeSets_56 : decode cX8_makeSets 56 = .ok (.lcmp, 1) := by decide +kernel
theorem dX8_makeSets_57 : decode cX8_makeSets 57 = .ok (.ifCond .eq 103, 3) := by decide +kernel
theorem dX8_makeSets_60 : decode cX8_makeSets 60 = .ok (.aload_n 0, 1) := by decide +kernel
theorem dX8_makeSets_61 : decode cX8_makeSets 61 = .ok (.lload_n 3, 1) := by decide +kernel
theorem dX8_makeSets_62 : decode cX8_makeSets 62 = .ok (.iload_n 1, 1) := by decide +kernel
theorem dX8_makeSets_63 : decode cX8_makeSets 63 = .ok (.invokevirtual 172, 3) := by decide +kernel
theorem dX8_makeSets_66 : decode cX8_makeSets 66 = .ok (.iconst (-1), 1) := by decide +kernel
theorem dX8_makeSets_67 : decode cX8_makeSets 67 = .ok (.if_icmp .eq 6, 3) := by decide +kernel
theorem dX8_makeSets_70 : decode cX8_makeSets 70 = .ok (.goto 90, 3) := by decide +kernel
theorem dX8_makeSets_73 : decode cX8_makeSets 73 = .ok (.aload_n 0, 1) := by decide +kernel
theorem dX8_makeSets_74 : decode cX8_makeSets 74 = .ok (.lload_n 3, 1) := by decide +kernel
theorem dX8_makeSets_75 : decode cX8_makeSets 75 = .ok (.iload_n 1, 1) := by decide +kernel
theorem dX8_makeSets_76 : decode cX8_makeSets 76 = .ok (.iconst 1, 1) := by decide +kernel
theorem dX8_makeSets_77 : decode cX8_makeSets 77 = .ok (.iadd, 1) := by decide +kernel
theorem dX8_makeSets_78 : decode cX8_makeSets 78 = .ok (.invokevirtual 176, 3) := by decide +kernel
theorem dX8_makeSets_81 : decode cX8_makeSets 81 = .ok (.istore 5, 2) := by decide +kernel
theorem dX8_makeSets_83 : decode cX8_makeSets 83 = .ok (.aload_n 0, 1) := by decide +kernel
theorem dX8_makeSets_84 : decode cX8_makeSets 84 = .ok (.lload_n 3, 1) := by decide +kernel
theorem dX8_makeSets_85 : decode cX8_makeSets 85 = .ok (.iload_n 1, 1) := by decide +kernel
theorem dX8_makeSets_86 : decode cX8_makeSets 86 = .ok (.iconst 1, 1) := by decide +kernel
theorem dX8_makeSets_87 : decode cX8_makeSets 87 = .ok (.iadd, 1) := by decide +kernel
theorem dX8_makeSets_88 : decode cX8_makeSets 88 = .ok (.invokestatic 102, 3) := by decide +kernel
theorem dX8_makeSets_91 : decode cX8_makeSets 91 = .ok (.ladd, 1) := by decide +kernel
theorem dX8_makeSets_92 : decode cX8_makeSets 92 = .ok (.iload_n 1, 1) := by decide +kernel
theorem dX8_makeSets_93 : decode cX8_makeSets 93 = .ok (.iconst 1, 1) := by decide +kernel
theorem dX8_makeSets_94 : decode cX8_makeSets 94 = .ok (.iadd, 1) := by decide +kernel
theorem dX8_makeSets_95 : decode cX8_makeSets 95 = .ok (.invokevirtual 176, 3) := by decide +kernel
theorem dX8_makeSets_98 : decode cX8_makeSets 98 = .ok (.istore 6, 2) := by decide +kernel
theorem dX8_makeSets_100 : decode cX8_makeSets 100 = .ok (.sipush 600, 3) := by decide +kernel
theorem dX8_makeSets_103 : decode cX8_makeSets 103 = .ok (.iload_n 1, 1) := by decide +kernel
theorem dX8_makeSets_104 : decode cX8_makeSets 104 = .ok (.imul, 1) := by decide +kernel
theorem dX8_makeSets_105 : decode cX8_makeSets 105 = .ok (.aload_n 0, 1) := by decide +kernel
theorem dX8_makeSets_106 : decode cX8_makeSets 106 = .ok (.getfield 29, 3) := by decide +kernel
theorem dX8_makeSets_109 : decode cX8_makeSets 109 = .ok (.iload_n 1, 1) := by decide +kernel
theorem dX8_makeSets_110 : decode cX8_makeSets 110 = .ok (.iaload, 1) := by decide +kernel
theorem dX8_makeSets_111 : decode cX8_makeSets 111 = .ok (.iadd, 1) := by decide +kernel
theorem dX8_makeSets_112 : decode cX8_makeSets 112 = .ok (.istore 7, 2) := by decide +kernel
theorem dX8_makeSets_114 : decode cX8_makeSets 114 = .ok (.aload_n 0, 1) := by decide +kernel
theorem dX8_makeSets_115 : decode cX8_makeSets 115 = .ok (.getfield 32, 3) := by decide +kernel
theorem dX8_makeSets_118 : decode cX8_makeSets 118 = .ok (.iload 7, 2) := by decide +kernel
theorem dX8_makeSets_120 : decode cX8_makeSets 120 = .ok (.lload_n 3, 1) := by decide +kernel
theorem dX8_makeSets_121 : decode cX8_makeSets 121 = .ok (.lastore, 1) := by decide +kernel
theorem dX8_makeSets_122 : decode cX8_makeSets 122 = .ok (.aload_n 0, 1) := by decide +kernel
theorem dX8_makeSets_123 : decode cX8_makeSets 123 = .ok (.getfield 35, 3) := by decide +kernel
theorem dX8_makeSets_126 : decode cX8_makeSets 126 = .ok (.iload 7, 2) := by decide +kernel
theorem dX8_makeSets_128 : decode cX8_makeSets 128 = .ok (.iload 5, 2) := by decide +kernel
theorem dX8_makeSets_130 : decode cX8_makeSets 130 = .ok (.iload 6, 2) := by decide +kernel
theorem dX8_makeSets_132 : decode cX8_makeSets 132 = .ok (.iand, 1) := by decide +kernel
theorem dX8_makeSets_133 : decode cX8_makeSets 133 = .ok (.ifCond .eq 11, 3) := by decide +kernel
theorem dX8_makeSets_136 : decode cX8_makeSets 136 = .ok (.iload 5, 2) := by decide +kernel
theorem dX8_makeSets_138 : decode cX8_makeSets 138 = .ok (.iload 6, 2) := by decide +kernel
theorem dX8_makeSets_140 : decode cX8_makeSets 140 = .ok (.iand, 1) := by decide +kernel
theorem dX8_makeSets_141 : decode cX8_makeSets 141 = .ok (.goto 8, 3) := by decide +kernel
theorem dX8_makeSets_144 : decode cX8_makeSets 144 = .ok (.iload 5, 2) := by decide +kernel
theorem dX8_makeSets_146 : decode cX8_makeSets 146 = .ok (.iload 6, 2) := by decide +kernel
theorem dX8_makeSets_148 : decode cX8_makeSets 148 = .ok (.ior, 1) := by decide +kernel
theorem dX8_makeSets_149 : decode cX8_makeSets 149 = .ok (.iastore, 1) := by decide +kernel
theorem dX8_makeSets_150 : decode cX8_makeSets 150 = .ok (.aload_n 0, 1) := by decide +kernel
theorem dX8_makeSets_151 : decode cX8_makeSets 151 = .ok (.getfield 29, 3) := by decide +kernel
theorem dX8_makeSets_154 : decode cX8_makeSets 154 = .ok (.iload_n 1, 1) := by decide +kernel
theorem dX8_makeSets_155 : decode cX8_makeSets 155 = .ok (.dup2, 1) := by decide +kernel
theorem dX8_makeSets_156 : decode cX8_makeSets 156 = .ok (.iaload, 1) := by decide +kernel
theorem dX8_makeSets_157 : decode cX8_makeSets 157 = .ok (.iconst 1, 1) := by decide +kernel
theorem dX8_makeSets_158 : decode cX8_makeSets 158 = .ok (.iadd, 1) := by decide +kernel
theorem dX8_makeSets_159 : decode cX8_makeSets 159 = .ok (.iastore, 1) := by decide +kernel
theorem dX8_makeSets_160 : decode cX8_makeSets 160 = .ok (.iinc 2 1, 3) := by decide +kernel
theorem dX8_makeSets_163 : decode cX8_makeSets 163 = .ok (.goto (-139), 3) := by decide +kernel
theorem dX8_makeSets_166 : decode cX8_makeSets 166 = .ok (.iinc 1 (-1), 3) := by decide +kernel
theorem dX8_makeSets_169 : decode cX8_makeSets 169 = .ok (.goto (-158), 3) := by decide +kernel
theorem dX8_makeSets_172 : decode cX8_makeSets 172 = .ok (.return_, 1) := by decide +kernel
set_option maxRecDepth 20000 in
theorem ggX8_set_X8_isBook : GoodIn wsX8_set wsX8_isBook := goodIn_r _ [4, 5, 6, 3, 7] (by decide +kernel) (by decide +kernel)
set_option maxRecDepth 20000 in
theorem gX8_set_X8_isBook : GoodIn wsX8_set (va_wsS RX8 109 yX8_isBook wsX8_isBook) := goodIn_app (goodIn_of _ (by decide +kernel)) ggX8_set_X8_isBook
set_option maxRecDepth 20000 in
theorem ggX8_set_X8_isBeginning : GoodIn wsX8_set wsX8_isBeginning := goodIn_r _ [10, 5, 6, 3, 7, 11, 12, 13, 14, 15, 16, 17] (by decide +kernel) (by decide +kernel)
set_option maxRecDepth 20000 in
theorem gX8_set_X8_isBeginning : GoodIn wsX8_set (va_wsS RX8 113 yX8_isBeginning wsX8_isBeginning) := goodIn_app (goodIn_of _ (by decide +kernel)) ggX8_set_X8_isBeginning
set_option maxRecDepth 20000 in
theorem ggX8_set_X8_makeSpans : GoodIn wsX8_set wsX8_makeSpans := goodIn_r _ [21, 22, 23, 24, 25, 26, 27, 3, 28, 29, 30, 31, 32, 33, 34, 35, 36, 15, 16, 17, 37, 38, 39, 40, 41, 42, 43, 44, 45, 46, 47, 48, 49, 50, 51, 52, 80, 81, 82, 83, 84, 85, 86, 87, 88, 89, 90, 91, 92, 93, 94, 95, 96, 97, 98, 99, 100, 101, 102, 103, 104, 105, 106, 107, 108, 109, 110, 111, 112, 113] (by decide +kernel) (by decide +kernel)
set_option maxRecDepth 20000 in
theorem gX8_set_X8_makeSpans : GoodIn wsX8_set (wsV RX8 154 RX8 yX8_makeSpans wsX8_makeSpans) := goodIn_app (goodIn_of _ (by decide +kernel)) ggX8_set_X8_makeSpans
set_option maxRecDepth 20000 in
theorem ggX8_set_X8_makeSets : GoodIn wsX8_set wsX8_makeSets := goodIn_r _ [56, 57, 22, 23, 58, 59, 15, 16, 3, 17, 60, 61, 62, 63, 64, 65, 66, 67, 24, 68, 69, 70, 71, 72, 73, 74, 75, 76, 77, 78, 79, 29, 80, 81, 82, 83, 84, 85, 86, 87, 88, 89, 90, 91, 92, 93, 94, 95, 96, 97, 98, 99, 100, 101, 102, 103, 104, 105, 106, 107, 108, 109, 110, 111, 112, 113] (by decide +kernel) (by decide +kernel)
set_option maxRecDepth 20000 in
theorem gX8_set_X8_makeSets : GoodIn wsX8_set (wsV RX8 179 RX8 yX8_makeSets wsX8_makeSets) := goodIn_app (goodIn_of _ (by decide +kernel)) ggX8_set_X8_makeSets
set_option maxRecDepth 20000 in
theorem ggX8_set_X8_number : GoodIn wsX8_set wsX8_number := goodIn_r _ [13, 14] (by decide +kernel) (by decide +kernel)
set_option maxRecDepth 20000 in
theorem gX8_set_X8_number : GoodIn wsX8_set (va_wsS RX8 98 yX8_number wsX8_number) := goodIn_app (goodIn_of _ (by decide +kernel)) ggX8_set_X8_number
set_option maxRecDepth 20000 in
theorem ggX8_set_X8_setOf : GoodIn wsX8_set wsX8_setOf := goodIn_r _ [67, 24, 59, 68, 69, 70, 3, 71, 72, 73, 74, 75, 76, 77, 78, 79, 22, 23, 29, 15, 16, 17, 60, 61, 62, 63, 57, 58, 80, 81, 82, 83, 84, 85, 86, 87, 88, 89, 90, 91, 92, 93, 94, 95, 96, 97, 98, 99, 100, 101, 102, 103, 104, 105, 106, 107, 108, 109, 110, 111, 112, 113] (by decide +kernel) (by decide +kernel)
set_option maxRecDepth 20000 in
theorem gX8_set_X8_setOf : GoodIn wsX8_set (wsV RX8 176 RX8 yX8_setOf wsX8_setOf) := goodIn_app (goodIn_of _ (by decide +kernel)) ggX8_set_X8_setOf
theorem dX8_set_0 : decode cX8_set 0 = .ok (.iload_n 1, 1) := by decide +kernel
theorem dX8_set_1 : decode cX8_set 1 = .ok (.invokestatic 109, 3) := by decide +kernel
theorem dX8_set_4 : decode cX8_set 4 = .ok (.ifCond .eq 11, 3) := by decide +kernel
theorem dX8_set_7 : decode cX8_set 7 = .ok (.iload_n 2, 1) := by decide +kernel
theorem dX8_set_8 : decode cX8_set 8 = .ok (.iload_n 3, 1) := by decide +kernel
theorem dX8_set_9 : decode cX8_set 9 = .ok (.invokestatic 113, 3) := by decide +kernel
theorem dX8_set_12 : decode cX8_set 12 = .ok (.ifCond .ne 5, 3) := by decide +kernel
theorem dX8_set_15 : decode cX8_set 15 = .ok (.iconst (-1), 1) := by decide +kernel
theorem dX8_set_16 : decode cX8_set 16 = .ok (.ireturn, 1) := by decide +kernel
theorem dX8_set_17 : decode cX8_set 17 = .ok (.aload_n 0, 1) := by decide +kernel
theorem dX8_set_18 : decode cX8_set 18 = .ok (.iconst 3, 1) := by decide +kernel
theorem dX8_set_19 : decode cX8_set 19 = .ok (.iload_n 1, 1) := by decide +kernel
theorem dX8_set_20 : decode cX8_set 20 = .ok (.iload_n 1, 1) := by decide +kernel
theorem dX8_set_21 : decode cX8_set 21 = .ok (.invokevirtual 154, 3) := by decide +kernel
theorem dX8_set_24 : decode cX8_set 24 = .ok (.aload_n 0, 1) := by decide +kernel
theorem dX8_set_25 : decode cX8_set 25 = .ok (.invokevirtual 179, 3) := by decide +kernel
theorem dX8_set_28 : decode cX8_set 28 = .ok (.aload_n 0, 1) := by decide +kernel
theorem dX8_set_29 : decode cX8_set 29 = .ok (.iload_n 2, 1) := by decide +kernel
theorem dX8_set_30 : decode cX8_set 30 = .ok (.invokestatic 98, 3) := by decide +kernel
theorem dX8_set_33 : decode cX8_set 33 = .ok (.iload_n 3, 1) := by decide +kernel
theorem dX8_set_34 : decode cX8_set 34 = .ok (.invokevirtual 176, 3) := by decide +kernel
theorem dX8_set_37 : decode cX8_set 37 = .ok (.ireturn, 1) := by decide +kernel
theorem dX8_lowest_0 : decode cX8_lowest 0 = .ok (.iconst 0, 1) := by decide +kernel
theorem dX8_lowest_1 : decode cX8_lowest 1 = .ok (.istore_n 1, 1) := by decide +kernel
theorem dX8_lowest_2 : decode cX8_lowest 2 = .ok (.iload_n 0, 1) := by decide +kernel
theorem dX8_lowest_3 : decode cX8_lowest 3 = .ok (.iload_n 1, 1) := by decide +kernel
theorem dX8_lowest_4 : decode cX8_lowest 4 = .ok (.ishr, 1) := by decide +kernel
theorem dX8_lowest_5 : decode cX8_lowest 5 = .ok (.iconst 1, 1) := by decide +kernel
theorem dX8_lowest_6 : decode cX8_lowest 6 = .ok (.iand, 1) := by decide +kernel
theorem dX8_lowest_7 : decode cX8_lowest 7 = .ok (.ifCond .ne 9, 3) := by decide +kernel
theorem dX8_lowest_10 : decode cX8_lowest 10 = .ok (.iinc 1 1, 3) := by decide +kernel
theorem dX8_lowest_13 : decode cX8_lowest 13 = .ok (.goto (-11), 3) := by decide +kernel
theorem dX8_lowest_16 : decode cX8_lowest 16 = .ok (.iload_n 1, 1) := by decide +kernel
theorem dX8_lowest_17 : decode cX8_lowest 17 = .ok (.ireturn, 1) := by decide +kernel
set_option maxRecDepth 20000 in
theorem ggX8_makeLeast_X8_makeSets : GoodIn wsX8_makeLeast wsX8_makeSets := goodIn_r _ [14, 15, 16, 17, 18, 19, 20, 21, 13, 22, 23, 24, 25, 26, 27, 28, 29, 30, 8, 31, 32, 33, 34, 35, 36, 37, 38, 39, 40, 41, 42, 43, 47, 48, 49, 50, 51, 52, 53, 54, 55, 56, 57, 58, 59, 60, 61, 62, 63, 64, 65, 66, 67, 68, 69, 70, 71, 72, 73, 74, 75, 76, 77, 78, 79, 80] (by decide +kernel) (by decide +kernel)
set_option maxRecDepth 20000 in
theorem gX8_makeLeast_X8_makeSets : GoodIn wsX8_makeLeast (wsV RX8 179 RX8 yX8_makeSets wsX8_makeSets) := goodIn_app (goodIn_of _ (by decide +kernel)) ggX8_makeLeast_X8_makeSets
set_option maxRecDepth 20000 in
theorem ggX8_makeLeast_X8_setOf : GoodIn wsX8_makeLeast wsX8_setOf := goodIn_r _ [30, 8, 19, 31, 32, 33, 13, 34, 35, 36, 37, 38, 39, 40, 41, 42, 16, 17, 43, 20, 21, 22, 23, 24, 25, 26, 15, 18, 47, 48, 49, 50, 51, 52, 53, 54, 55, 56, 57, 58, 59, 60, 61, 62, 63, 64, 65, 66, 67, 68, 69, 70, 71, 72, 73, 74, 75, 76, 77, 78, 79, 80] (by decide +kernel) (by decide +kernel)
set_option maxRecDepth 20000 in
theorem gX8_makeLeast_X8_setOf : GoodIn wsX8_makeLeast (wsV RX8 176 RX8 yX8_setOf wsX8_setOf) := goodIn_app (goodIn_of _ (by decide +kernel)) ggX8_makeLeast_X8_setOf
set_option maxRecDepth 20000 in
theorem ggX8_makeLeast_X8_lowest : GoodIn wsX8_makeLeast wsX8_lowest := goodIn_r _ [46] (by decide +kernel) (by decide +kernel)
set_option maxRecDepth 20000 in
theorem gX8_makeLeast_X8_lowest : GoodIn wsX8_makeLeast (va_wsS RX8 182 yX8_lowest wsX8_lowest) := goodIn_app (goodIn_of _ (by decide +kernel)) ggX8_makeLeast_X8_lowest
set_option maxRecDepth 20000 in
theorem ggX8_makeLeast_X8_isOne : GoodIn wsX8_makeLeast wsX8_isOne := goodIn_r _ [34, 35, 36, 37, 13, 38, 39, 40, 41, 42, 16, 17, 43, 20, 21, 22, 47, 48, 49, 50, 51, 52, 53, 54, 55, 56, 57, 58, 59, 60, 61, 62, 63, 64, 65, 66, 67, 68, 69, 70, 71, 72, 73, 74, 75, 76, 77, 78, 79, 80] (by decide +kernel) (by decide +kernel)
set_option maxRecDepth 20000 in
theorem gX8_makeLeast_X8_isOne : GoodIn wsX8_makeLeast (wsV RX8 168 RX8 yX8_isOne wsX8_isOne) := goodIn_app (goodIn_of _ (by decide +kernel)) ggX8_makeLeast_X8_isOne
set_option maxRecDepth 20000 in
theorem ggX8_makeLeast_X8_size : GoodIn wsX8_makeLeast wsX8_size := goodIn_r _ [22] (by decide +kernel) (by decide +kernel)
set_option maxRecDepth 20000 in
theorem gX8_makeLeast_X8_size : GoodIn wsX8_makeLeast (va_wsS RX8 102 yX8_size wsX8_size) := goodIn_app (goodIn_of _ (by decide +kernel)) ggX8_makeLeast_X8_size
set_option maxRecDepth 20000 in
theorem ggX8_makeLeast_X8_spanOf : GoodIn wsX8_makeLeast wsX8_spanOf := goodIn_r _ [38, 39, 40, 41, 13, 42, 16, 17, 43, 47, 48, 49, 50, 51, 52, 53, 54, 55, 56, 57, 58, 59, 60, 61, 62, 63, 64, 65, 66, 67, 68, 69, 70, 71, 72, 73, 74, 75, 76, 77, 78, 79, 80] (by decide +kernel) (by decide +kernel)
set_option maxRecDepth 20000 in
theorem gX8_makeLeast_X8_spanOf : GoodIn wsX8_makeLeast (wsV RX8 164 RX8 yX8_spanOf wsX8_spanOf) := goodIn_app (goodIn_of _ (by decide +kernel)) ggX8_makeLeast_X8_spanOf
theorem dX8_makeLeast_0 : decode cX8_makeLeast 0 = .ok (.aload_n 0, 1) := by decide +kernel
theorem dX8_makeLeast_1 : decode cX8_makeLeast 1 = .ok (.invokevirtual 179, 3) := by decide +kernel
theorem dX8_makeLeast_4 : decode cX8_makeLeast 4 = .ok (.iconst 0, 1) := by decide +kernel
theorem dX8_makeLeast_5 : decode cX8_makeLeast 5 = .ok (.istore_n 1, 1) := by decide +kernel
theorem dX8_makeLeast_6 : decode cX8_makeLeast 6 = .ok (.iconst 1, 1) := by decide +kernel
theorem dX8_makeLeast_7 : decode cX8_makeLeast 7 = .ok (.istore_n 2, 1) := by decide +kernel
theorem dX8_makeLeast_8 : decode cX8_makeLeast 8 = .ok (.aload_n 0, 1) := by decide +kernel
theorem dX8_makeLeast_9 : decode cX8_makeLeast 9 = .ok (.getfield 38, 3) := by decide +kernel
theorem dX8_makeLeast_12 : decode cX8_makeLeast 12 = .ok (.iconst 0, 1) := by decide +kernel
theorem dX8_makeLeast_13 : decode cX8_makeLeast 13 = .ok (.lconst 0, 1) := by decide +kernel
theorem dX8_makeLeast_14 : decode cX8_makeLeast 14 = .ok (.lastore, 1) := by decide +kernel
theorem dX8_makeLeast_15 : decode cX8_makeLeast 15 = .ok (.aload_n 0, 1) := by decide +kernel
theorem dX8_makeLeast_16 : decode cX8_makeLeast 16 = .ok (.getfield 41, 3) := by decide +kernel
theorem dX8_makeLeast_19 : decode cX8_makeLeast 19 = .ok (.iconst 0, 1) := by decide +kernel
theorem dX8_makeLeast_20 : decode cX8_makeLeast 20 = .ok (.bipush 16, 2) := by decide +kernel
theorem dX8_makeLeast_22 : decode cX8_makeLeast 22 = .ok (.iastore, 1) := by decide +kernel
theorem dX8_makeLeast_23 : decode cX8_makeLeast 23 = .ok (.iconst 0, 1) := by decide +kernel
theorem dX8_makeLeast_24 : decode cX8_makeLeast 24 = .ok (.istore_n 3, 1) := by decide +kernel
theorem dX8_makeLeast_25 : decode cX8_makeLeast 25 = .ok (.iload_n 3, 1) := by decide +kernel
theorem dX8_makeLeast_26 : decode cX8_makeLeast 26 = .ok (.bipush 32, 2) := by decide +kernel
theorem dX8_makeLeast_28 : decode cX8_makeLeast 28 = .ok (.if_icmp .gt 298, 3) := by decide +kernel
theorem dX8_makeLeast_31 : decode cX8_makeLeast 31 = .ok (.iload_n 2, 1) := by decide +kernel
theorem dX8_makeLeast_32 : decode cX8_makeLeast 32 = .ok (.ifCond .le 294, 3) := by decide +kernel
theorem dX8_makeLeast_35 : decode cX8_makeLeast 35 = .ok (.iconst 0, 1) := by decide +kernel
theorem dX8_makeLeast_36 : decode cX8_makeLeast 36 = .ok (.istore 4, 2) := by decide +kernel
theorem dX8_makeLeast_38 : decode cX8_makeLeast 38 = .ok (.iconst 0, 1) := by decide +kernel
theorem dX8_makeLeast_39 : decode cX8_makeLeast 39 = .ok (.istore 5, 2) := by decide +kernel
theorem dX8_makeLeast_41 : decode cX8_makeLeast 41 = .ok (.iload 5, 2) := by decide +kernel
theorem dX8_makeLeast_43 : decode cX8_makeLeast 43 = .ok (.iload_n 2, 1) := by decide +kernel
theorem dX8_makeLeast_44 : decode cX8_makeLeast 44 = .ok (.if_icmp .ge 183, 3) := by decide +kernel
theorem dX8_makeLeast_47 : decode cX8_makeLeast 47 = .ok (.aload_n 0, 1) := by decide +kernel
theorem dX8_makeLeast_48 : decode cX8_makeLeast 48 = .ok (.aload_n 0, 1) := by decide +kernel
theorem dX8_makeLeast_49 : decode cX8_makeLeast 49 = .ok (.getfield 38, 3) := by decide +kernel
theorem dX8_makeLeast_52 : decode cX8_makeLeast 52 = .ok (.iload 5, 2) := by decide +kernel
theorem dX8_makeLeast_54 : decode cX8_makeLeast 54 = .ok (.laload, 1) := by decide +kernel
theorem dX8_makeLeast_55 : decode cX8_makeLeast 55 = .ok (.iload_n 3, 1) := by decide +kernel
theorem dX8_makeLeast_56 : decode cX8_makeLeast 56 = .ok (.invokevirtual 176, 3) := by decide +kernel
theorem dX8_makeLeast_59 : decode cX8_makeLeast 59 = .ok (.istore 6, 2) := by decide +kernel
theorem dX8_makeLeast_61 : decode cX8_makeLeast 61 = .ok (.iload 6, 2) := by decide +kernel
theorem dX8_makeLeast_63 : decode cX8_makeLeast 63 = .ok (.aload_n 0, 1) := by decide +kernel
theorem dX8_makeLeast_64 : decode cX8_makeLeast 64 = .ok (.getfield 41, 3) := by decide +kernel
theorem dX8_makeLeast_67 : decode cX8_makeLeast 67 = .ok (.iload 5, 2) := by decide +kernel
theorem dX8_makeLeast_69 : decode cX8_makeLeast 69 = .ok (.iaload, 1) := by decide +kernel
theorem dX8_makeLeast_70 : decode cX8_makeLeast 70 = .ok (.ishr, 1) := by decide +kernel
theorem dX8_makeLeast_71 : decode cX8_makeLeast 71 = .ok (.iconst 1, 1) := by decide +kernel
theorem dX8_makeLeast_72 : decode cX8_makeLeast 72 = .ok (.iand, 1) := by decide +kernel
theorem dX8_makeLeast_73 : decode cX8_makeLeast 73 = .ok (.iconst 1, 1) := by decide +kernel
theorem dX8_makeLeast_74 : decode cX8_makeLeast 74 = .ok (.if_icmp .ne 13, 3) := by decide +kernel
theorem dX8_makeLeast_77 : decode cX8_makeLeast 77 = .ok (.aload_n 0, 1) := by decide +kernel
theorem dX8_makeLeast_78 : decode cX8_makeLeast 78 = .ok (.getfield 41, 3) := by decide +kernel
theorem dX8_makeLeast_81 : decode cX8_makeLeast 81 = .ok (.iload 5, 2) := by decide +kernel
theorem dX8_makeLeast_83 : decode cX8_makeLeast 83 = .ok (.iaload, 1) := by decide +kernel
theorem dX8_makeLeast_84 : decode cX8_makeLeast 84 = .ok (.goto 8, 3) := by decide +kernel
theorem dX8_makeLeast_87 : decode cX8_makeLeast 87 = .ok (.iload 6, 2) := by decide +kernel
theorem dX8_makeLeast_89 : decode cX8_makeLeast 89 = .ok (.invokestatic 182, 3) := by decide +kernel
theorem dX8_makeLeast_92 : decode cX8_makeLeast 92 = .ok (.istore 7, 2) := by decide +kernel
theorem dX8_makeLeast_94 : decode cX8_makeLeast 94 = .ok (.iload 7, 2) := by decide +kernel
theorem dX8_makeLeast_96 : decode cX8_makeLeast 96 = .ok (.aload_n 0, 1) := by decide +kernel
theorem dX8_makeLeast_97 : decode cX8_makeLeast 97 = .ok (.getfield 41, 3) := by decide +kernel
theorem dX8_makeLeast_100 : decode cX8_makeLeast 100 = .ok (.iload 5, 2) := by decide +kernel
theorem dX8_makeLeast_102 : decode cX8_makeLeast 102 = .ok (.iaload, 1) := by decide +kernel
theorem dX8_makeLeast_103 : decode cX8_makeLeast 103 = .ok (.if_icmp .eq 40, 3) := by decide +kernel
theorem dX8_makeLeast_106 : decode cX8_makeLeast 106 = .ok (.iload_n 1, 1) := by decide +kernel
theorem dX8_makeLeast_107 : decode cX8_makeLeast 107 = .ok (.bipush 64, 2) := by decide +kernel
theorem dX8_makeLeast_109 : decode cX8_makeLeast 109 = .ok (.if_icmp .ge 31, 3) := by decide +kernel
theorem dX8_makeLeast_112 : decode cX8_makeLeast 112 = .ok (.aload_n 0, 1) := by decide +kernel
theorem dX8_makeLeast_113 : decode cX8_makeLeast 113 = .ok (.getfield 50, 3) := by decide +kernel
theorem dX8_makeLeast_116 : decode cX8_makeLeast 116 = .ok (.iload_n 1, 1) := by decide +kernel
theorem dX8_makeLeast_117 : decode cX8_makeLeast 117 = .ok (.aload_n 0, 1) := by decide +kernel
theorem dX8_makeLeast_118 : decode cX8_makeLeast 118 = .ok (.getfield 38, 3) := by decide +kernel
theorem dX8_makeLeast_121 : decode cX8_makeLeast 121 = .ok (.iload 5, 2) := by decide +kernel
theorem dX8_makeLeast_123 : decode cX8_makeLeast 123 = .ok (.laload, 1) := by decide +kernel
theorem dX8_makeLeast_124 : decode cX8_makeLeast 124 = .ok (.lastore, 1) := by decide +kernel
theorem dX8_makeLeast_125 : decode cX8_makeLeast 125 = .ok (.aload_n 0, 1) := by decide +kernel
theorem dX8_makeLeast_126 : decode cX8_makeLeast 126 = .ok (.getfield 53, 3) := by decide +kernel
theorem dX8_makeLeast_129 : decode cX8_makeLeast 129 = .ok (.iload_n 1, 1) := by decide +kernel
theorem dX8_makeLeast_130 : decode cX8_makeLeast 130 = .ok (.iload_n 3, 1) := by decide +kernel
theorem dX8_makeLeast_131 : decode cX8_makeLeast 131 = .ok (.iastore, 1) := by decide +kernel
theorem dX8_makeLeast_132 : decode cX8_makeLeast 132 = .ok (.aload_n 0, 1) := by decide +kernel
theorem dX8_makeLeast_133 : decode cX8_makeLeast 133 = .ok (.getfield 56, 3) := by decide +kernel
theorem dX8_makeLeast_136 : decode cX8_makeLeast 136 = .ok (.iload_n 1, 1) := by decide +kernel
theorem dX8_makeLeast_137 : decode cX8_makeLeast 137 = .ok (.iload 7, 2) := by decide +kernel
theorem dX8_makeLeast_139 : decode cX8_makeLeast 139 = .ok (.iastore, 1) := by decide +kernel
theorem dX8_makeLeast_140 : decode cX8_makeLeast 140 = .ok (.iinc 1 1, 3) := by decide +kernel
theorem dX8_makeLeast_143 : decode cX8_makeLeast 143 = .ok (.aload_n 0, 1) := by decide +kernel
theorem dX8_makeLeast_144 : decode cX8_makeLeast 144 = .ok (.aload_n 0, 1) := by decide +kernel
theorem dX8_makeLeast_145 : decode cX8_makeLeast 145 = .ok (.getfield 38, 3) := by decide +kernel
theorem dX8_makeLeast_148 : decode cX8_makeLeast 148 = .ok (.iload 5, 2) := by decide +kernel
theorem dX8_makeLeast_150 : decode cX8_makeLeast 150 = .ok (.laload, 1) := by decide +kernel
theorem dX8_makeLeast_151 : decode cX8_makeLeast 151 = .ok (.iload_n 3, 1) := by decide +kernel
theorem dX8_makeLeast_152 : decode cX8_makeLeast 152 = .ok (.invokevirtual 168, 3) := by decide +kernel
theorem dX8_makeLeast_155 : decode cX8_makeLeast 155 = .ok (.ifCond .eq 6, 3) := by decide +kernel
theorem dX8_makeLeast_158 : decode cX8_makeLeast 158 = .ok (.goto 63, 3) := by decide +kernel
theorem dX8_makeLeast_161 : decode cX8_makeLeast 161 = .ok (.aload_n 0, 1) := by decide +kernel
theorem dX8_makeLeast_162 : decode cX8_makeLeast 162 = .ok (.getfield 44, 3) := by decide +kernel
theorem dX8_makeLeast_165 : decode cX8_makeLeast 165 = .ok (.iload 4, 2) := by decide +kernel
theorem dX8_makeLeast_167 : decode cX8_makeLeast 167 = .ok (.aload_n 0, 1) := by decide +kernel
theorem dX8_makeLeast_168 : decode cX8_makeLeast 168 = .ok (.getfield 38, 3) := by decide +kernel
theorem dX8_makeLeast_171 : decode cX8_makeLeast 171 = .ok (.iload 5, 2) := by decide +kernel
theorem dX8_makeLeast_173 : decode cX8_makeLeast 173 = .ok (.laload, 1) := by decide +kernel
theorem dX8_makeLeast_174 : decode cX8_makeLeast 174 = .ok (.lastore, 1) := by decide +kernel
theorem dX8_makeLeast_175 : decode cX8_makeLeast 175 = .ok (.aload_n 0, 1) := by decide +kernel
theorem dX8_makeLeast_176 : decode cX8_makeLeast 176 = .ok (.getfield 47, 3) := by decide +kernel
theorem dX8_makeLeast_179 : decode cX8_makeLeast 179 = .ok (.iload 4, 2) := by decide +kernel
theorem dX8_makeLeast_181 : decode cX8_makeLeast 181 = .ok (.iload 7, 2) := by decide +kernel
theorem dX8_makeLeast_183 : decode cX8_makeLeast 183 = .ok (.iastore, 1) := by decide +kernel
theorem dX8_makeLeast_184 : decode cX8_makeLeast 184 = .ok (.aload_n 0, 1) := by decide +kernel
theorem dX8_makeLeast_185 : decode cX8_makeLeast 185 = .ok (.getfield 44, 3) := by decide +kernel
theorem dX8_makeLeast_188 : decode cX8_makeLeast 188 = .ok (.iload 4, 2) := by decide +kernel
theorem dX8_makeLeast_190 : decode cX8_makeLeast 190 = .ok (.iconst 1, 1) := by decide +kernel
theorem dX8_makeLeast_191 : decode cX8_makeLeast 191 = .ok (.iadd, 1) := by decide +kernel
theorem dX8_makeLeast_192 : decode cX8_makeLeast 192 = .ok (.aload_n 0, 1) := by decide +kernel
theorem dX8_makeLeast_193 : decode cX8_makeLeast 193 = .ok (.getfield 38, 3) := by decide +kernel
theorem dX8_makeLeast_196 : decode cX8_makeLeast 196 = .ok (.iload 5, 2) := by decide +kernel
theorem dX8_makeLeast_198 : decode cX8_makeLeast 198 = .ok (.laload, 1) := by decide +kernel
theorem dX8_makeLeast_199 : decode cX8_makeLeast 199 = .ok (.iload_n 3, 1) := by decide +kernel
theorem dX8_makeLeast_200 : decode cX8_makeLeast 200 = .ok (.iconst 1, 1) := by decide +kernel
theorem dX8_makeLeast_201 : decode cX8_makeLeast 201 = .ok (.iadd, 1) := by decide +kernel
theorem dX8_makeLeast_202 : decode cX8_makeLeast 202 = .ok (.invokestatic 102, 3) := by decide +kernel
theorem dX8_makeLeast_205 : decode cX8_makeLeast 205 = .ok (.ladd, 1) := by decide +kernel
theorem dX8_makeLeast_206 : decode cX8_makeLeast 206 = .ok (.lastore, 1) := by decide +kernel
theorem dX8_makeLeast_207 : decode cX8_makeLeast 207 = .ok (.aload_n 0, 1) := by decide +kernel
theorem dX8_makeLeast_208 : decode cX8_makeLeast 208 = .ok (.getfield 47, 3) := by decide +kernel
theorem dX8_makeLeast_211 : decode cX8_makeLeast 211 = .ok (.iload 4, 2) := by decide +kernel
theorem dX8_makeLeast_213 : decode cX8_makeLeast 213 = .ok (.iconst 1, 1) := by decide +kernel
theorem dX8_makeLeast_214 : decode cX8_makeLeast 214 = .ok (.iadd, 1) := by decide +kernel
theorem dX8_makeLeast_215 : decode cX8_makeLeast 215 = .ok (.iload 7, 2) := by decide +kernel
theorem dX8_makeLeast_217 : decode cX8_makeLeast 217 = .ok (.iastore, 1) := by decide +kernel
theorem dX8_makeLeast_218 : decode cX8_makeLeast 218 = .ok (.iinc 4 2, 3) := by decide +kernel
theorem dX8_makeLeast_221 : decode cX8_makeLeast 221 = .ok (.iinc 5 1, 3) := by decide +kernel
theorem dX8_makeLeast_224 : decode cX8_makeLeast 224 = .ok (.goto (-183), 3) := by decide +kernel
theorem dX8_makeLeast_227 : decode cX8_makeLeast 227 = .ok (.iconst 0, 1) := by decide +kernel
theorem dX8_makeLeast_228 : decode cX8_makeLeast 228 = .ok (.istore_n 2, 1) := by decide +kernel
theorem dX8_makeLeast_229 : decode cX8_makeLeast 229 = .ok (.iconst 0, 1) := by decide +kernel
theorem dX8_makeLeast_230 : decode cX8_makeLeast 230 = .ok (.istore 5, 2) := by decide +kernel
theorem dX8_makeLeast_232 : decode cX8_makeLeast 232 = .ok (.iload 5, 2) := by decide +kernel
theorem dX8_makeLeast_234 : decode cX8_makeLeast 234 = .ok (.iload 4, 2) := by decide +kernel
theorem dX8_makeLeast_236 : decode cX8_makeLeast 236 = .ok (.if_icmp .ge 84, 3) := by decide +kernel
theorem dX8_makeLeast_239 : decode cX8_makeLeast 239 = .ok (.aload_n 0, 1) := by decide +kernel
theorem dX8_makeLeast_240 : decode cX8_makeLeast 240 = .ok (.aload_n 0, 1) := by decide +kernel
theorem dX8_makeLeast_241 : decode cX8_makeLeast 241 = .ok (.getfield 44, 3) := by decide +kernel
theorem dX8_makeLeast_244 : decode cX8_makeLeast 244 = .ok (.iload 5, 2) := by decide +kernel
theorem dX8_makeLeast_246 : decode cX8_makeLeast 246 = .ok (.laload, 1) := by decide +kernel
theorem dX8_makeLeast_247 : decode cX8_makeLeast 247 = .ok (.iload_n 3, 1) := by decide +kernel
theorem dX8_makeLeast_248 : decode cX8_makeLeast 248 = .ok (.iconst 1, 1) := by decide +kernel
theorem dX8_makeLeast_249 : decode cX8_makeLeast 249 = .ok (.iadd, 1) := by decide +kernel
theorem dX8_makeLeast_250 : decode cX8_makeLeast 250 = .ok (.invokevirtual 168, 3) := by decide +kernel
theorem dX8_makeLeast_253 : decode cX8_makeLeast 253 = .ok (.ifCond .eq 32, 3) := by decide +kernel
theorem dX8_makeLeast_256 : decode cX8_makeLeast 256 = .ok (.aload_n 0, 1) := by decide +kernel
theorem dX8_makeLeast_257 : decode cX8_makeLeast 257 = .ok (.getfield 26, 3) := by decide +kernel
theorem dX8_makeLeast_260 : decode cX8_makeLeast 260 = .ok (.aload_n 0, 1) := by decide +kernel
theorem dX8_makeLeast_261 : decode cX8_makeLeast 261 = .ok (.aload_n 0, 1) := by decide +kernel
theorem dX8_makeLeast_262 : decode cX8_makeLeast 262 = .ok (.getfield 44, 3) := by decide +kernel
theorem dX8_makeLeast_265 : decode cX8_makeLeast 265 = .ok (.iload 5, 2) := by decide +kernel
theorem dX8_makeLeast_267 : decode cX8_makeLeast 267 = .ok (.laload, 1) := by decide +kernel
theorem dX8_makeLeast_268 : decode cX8_makeLeast 268 = .ok (.invokevirtual 164, 3) := by decide +kernel
theorem dX8_makeLeast_271 : decode cX8_makeLeast 271 = .ok (.iaload, 1) := by decide +kernel
theorem dX8_makeLeast_272 : decode cX8_makeLeast 272 = .ok (.aload_n 0, 1) := by decide +kernel
theorem dX8_makeLeast_273 : decode cX8_makeLeast 273 = .ok (.getfield 47, 3) := by decide +kernel
theorem dX8_makeLeast_276 : decode cX8_makeLeast 276 = .ok (.iload 5, 2) := by decide +kernel
theorem dX8_makeLeast_278 : decode cX8_makeLeast 278 = .ok (.iaload, 1) := by decide +kernel
theorem dX8_makeLeast_279 : decode cX8_makeLeast 279 = .ok (.if_icmp .ne 6, 3) := by decide +kernel
theorem dX8_makeLeast_282 : decode cX8_makeLeast 282 = .ok (.goto 32, 3) := by decide +kernel
theorem dX8_makeLeast_285 : decode cX8_makeLeast 285 = .ok (.aload_n 0, 1) := by decide +kernel
theorem dX8_makeLeast_286 : decode cX8_makeLeast 286 = .ok (.getfield 38, 3) := by decide +kernel
theorem dX8_makeLeast_289 : decode cX8_makeLeast 289 = .ok (.iload_n 2, 1) := by decide +kernel
theorem dX8_makeLeast_290 : decode cX8_makeLeast 290 = .ok (.aload_n 0, 1) := by decide +kernel
theorem dX8_makeLeast_291 : decode cX8_makeLeast 291 = .ok (.getfield 44, 3) := by decide +kernel
theorem dX8_makeLeast_294 : decode cX8_makeLeast 294 = .ok (.iload 5, 2) := by decide +kernel
theorem dX8_makeLeast_296 : decode cX8_makeLeast 296 = .ok (.laload, 1) := by decide +kernel
theorem dX8_makeLeast_297 : decode cX8_makeLeast 297 = .ok (.lastore, 1) := by decide +kernel
theorem dX8_makeLeast_298 : decode cX8_makeLeast 298 = .ok (.aload_n 0, 1) := by decide +kernel
theorem dX8_makeLeast_299 : decode cX8_makeLeast 299 = .ok (.getfield 41, 3) := by decide +kernel
theorem dX8_makeLeast_302 : decode cX8_makeLeast 302 = .ok (.iload_n 2, 1) := by decide +kernel
theorem dX8_makeLeast_303 : decode cX8_makeLeast 303 = .ok (.aload_n 0, 1) := by decide +kernel
theorem dX8_makeLeast_304 : decode cX8_makeLeast 304 = .ok (.getfield 47, 3) := by decide +kernel
theorem dX8_makeLeast_307 : decode cX8_makeLeast 307 = .ok (.iload 5, 2) := by decide +kernel
theorem dX8_makeLeast_309 : decode cX8_makeLeast 309 = .ok (.iaload, 1) := by decide +kernel
theorem dX8_makeLeast_310 : decode cX8_makeLeast 310 = .ok (.iastore, 1) := by decide +kernel
theorem dX8_makeLeast_311 : decode cX8_makeLeast 311 = .ok (.iinc 2 1, 3) := by decide +kernel
theorem dX8_makeLeast_314 : decode cX8_makeLeast 314 = .ok (.iinc 5 1, 3) := by decide +kernel
theorem dX8_makeLeast_317 : decode cX8_makeLeast 317 = .ok (.goto (-85), 3) := by decide +kernel
theorem dX8_makeLeast_320 : decode cX8_makeLeast 320 = .ok (.iinc 3 1, 3) := by decide +kernel
theorem dX8_makeLeast_323 : decode cX8_makeLeast 323 = .ok (.goto (-298), 3) := by decide +kernel
theorem dX8_makeLeast_326 : decode cX8_makeLeast 326 = .ok (.aload_n 0, 1) := by decide +kernel
theorem dX8_makeLeast_327 : decode cX8_makeLeast 327 = .ok (.iload_n 1, 1) := by decide +kernel
theorem dX8_makeLeast_328 : decode cX8_makeLeast 328 = .ok (.putfield 186, 3) := by decide +kernel
theorem dX8_makeLeast_331 : decode cX8_makeLeast 331 = .ok (.iload_n 1, 1) := by decide +kernel
theorem dX8_makeLeast_332 : decode cX8_makeLeast 332 = .ok (.ireturn, 1) := by decide +kernel
set_option maxRecDepth 20000 in
theorem ggX8_becomes_X8_comes : GoodIn wsX8_becomes wsX8_comes := goodIn_r _ [10, 1, 11, 12, 13, 14, 15, 16, 9, 17, 18, 19, 20, 21, 22, 23, 24, 25, 26, 27, 28, 29, 30, 31, 32, 33, 34, 35, 36, 37, 38, 39, 40, 41, 42, 43, 44, 45, 46, 47, 48, 49, 50, 51] (by decide +kernel) (by decide +kernel)
set_option maxRecDepth 20000 in
theorem gX8_becomes_X8_comes : GoodIn wsX8_becomes (wsV RX8 121 RX8 yX8_comes wsX8_comes) := goodIn_app (goodIn_of _ (by decide +kernel)) ggX8_becomes_X8_comes
theorem dX8_becomes_0 : decode cX8_becomes 0 = .ok (.aload_n 0, 1) := by decide +kernel
theorem dX8_becomes_1 : decode cX8_becomes 1 = .ok (.getfield 7, 3) := by decide +kernel
theorem dX8_becomes_4 : decode cX8_becomes 4 = .ok (.iload_n 1, 1) := by decide +kernel
theorem dX8_becomes_5 : decode cX8_becomes 5 = .ok (.iconst 0, 1) := by decide +kernel
theorem dX8_becomes_6 : decode cX8_becomes 6 = .ok (.iastore, 1) := by decide +kernel
theorem dX8_becomes_7 : decode cX8_becomes 7 = .ok (.iconst 0, 1) := by decide +kernel
theorem dX8_becomes_8 : decode cX8_becomes 8 = .ok (.istore_n 2, 1) := by decide +kernel
theorem dX8_becomes_9 : decode cX8_becomes 9 = .ok (.iload_n 2, 1) := by decide +kernel
theorem dX8_becomes_10 : decode cX8_becomes 10 = .ok (.aload_n 0, 1) := by decide +kernel
theorem dX8_becomes_11 : decode cX8_becomes 11 = .ok (.getfield 186, 3) := by decide +kernel
theorem dX8_becomes_14 : decode cX8_becomes 14 = .ok (.if_icmp .ge 32, 3) := by decide +kernel
theorem dX8_becomes_17 : decode cX8_becomes 17 = .ok (.aload_n 0, 1) := by decide +kernel
theorem dX8_becomes_18 : decode cX8_becomes 18 = .ok (.iload_n 1, 1) := by decide +kernel
theorem dX8_becomes_19 : decode cX8_becomes 19 = .ok (.aload_n 0, 1) := by decide +kernel
theorem dX8_becomes_20 : decode cX8_becomes 20 = .ok (.getfield 50, 3) := by decide +kernel
theorem dX8_becomes_23 : decode cX8_becomes 23 = .ok (.iload_n 2, 1) := by decide +kernel
theorem dX8_becomes_24 : decode cX8_becomes 24 = .ok (.laload, 1) := by decide +kernel
theorem dX8_becomes_25 : decode cX8_becomes 25 = .ok (.aload_n 0, 1) := by decide +kernel
theorem dX8_becomes_26 : decode cX8_becomes 26 = .ok (.getfield 53, 3) := by decide +kernel
theorem dX8_becomes_29 : decode cX8_becomes 29 = .ok (.iload_n 2, 1) := by decide +kernel
theorem dX8_becomes_30 : decode cX8_becomes 30 = .ok (.iaload, 1) := by decide +kernel
theorem dX8_becomes_31 : decode cX8_becomes 31 = .ok (.aload_n 0, 1) := by decide +kernel
theorem dX8_becomes_32 : decode cX8_becomes 32 = .ok (.getfield 56, 3) := by decide +kernel
theorem dX8_becomes_35 : decode cX8_becomes 35 = .ok (.iload_n 2, 1) := by decide +kernel
theorem dX8_becomes_36 : decode cX8_becomes 36 = .ok (.iaload, 1) := by decide +kernel
theorem dX8_becomes_37 : decode cX8_becomes 37 = .ok (.invokevirtual 121, 3) := by decide +kernel
theorem dX8_becomes_40 : decode cX8_becomes 40 = .ok (.iinc 2 1, 3) := by decide +kernel
theorem dX8_becomes_43 : decode cX8_becomes 43 = .ok (.goto (-34), 3) := by decide +kernel
theorem dX8_becomes_46 : decode cX8_becomes 46 = .ok (.aload_n 0, 1) := by decide +kernel
theorem dX8_becomes_47 : decode cX8_becomes 47 = .ok (.getfield 7, 3) := by decide +kernel
theorem dX8_becomes_50 : decode cX8_becomes 50 = .ok (.iload_n 1, 1) := by decide +kernel
theorem dX8_becomes_51 : decode cX8_becomes 51 = .ok (.iaload, 1) := by decide +kernel
theorem dX8_becomes_52 : decode cX8_becomes 52 = .ok (.ireturn, 1) := by decide +kernel
set_option maxRecDepth 20000 in
theorem ggX8_least_X8_isBook : GoodIn wsX8_least wsX8_isBook := goodIn_r _ [4, 5, 6, 3, 7] (by decide +kernel) (by decide +kernel)
set_option maxRecDepth 20000 in
theorem gX8_least_X8_isBook : GoodIn wsX8_least (va_wsS RX8 109 yX8_isBook wsX8_isBook) := goodIn_app (goodIn_of _ (by decide +kernel)) ggX8_least_X8_isBook
set_option maxRecDepth 20000 in
theorem ggX8_least_X8_makeSpans : GoodIn wsX8_least wsX8_makeSpans := goodIn_r _ [11, 12, 13, 14, 15, 16, 17, 3, 18, 19, 20, 21, 22, 23, 24, 25, 26, 27, 28, 29, 30, 31, 32, 33, 34, 35, 36, 37, 38, 39, 40, 41, 42, 43, 44, 45, 100, 101, 102, 103, 104, 105, 106, 107, 108, 109, 110, 111, 112, 113, 114, 115, 116, 117, 118, 119, 120, 121, 122, 123, 124, 125, 126, 127, 128, 129, 130, 131, 132, 133] (by decide +kernel) (by decide +kernel)
set_option maxRecDepth 20000 in
theorem gX8_least_X8_makeSpans : GoodIn wsX8_least (wsV RX8 154 RX8 yX8_makeSpans wsX8_makeSpans) := goodIn_app (goodIn_of _ (by decide +kernel)) ggX8_least_X8_makeSpans
set_option maxRecDepth 20000 in
theorem ggX8_least_X8_makeLeast : GoodIn wsX8_least wsX8_makeLeast := goodIn_r _ [49, 50, 51, 52, 53, 54, 55, 56, 14, 57, 58, 59, 60, 3, 61, 62, 12, 13, 63, 64, 27, 28, 29, 65, 66, 67, 68, 69, 70, 71, 72, 73, 74, 75, 76, 77, 78, 79, 80, 81, 82, 83, 84, 19, 85, 86, 87, 100, 101, 102, 103, 104, 105, 106, 107, 108, 109, 110, 111, 112, 113, 114, 115, 116, 117, 118, 119, 120, 121, 122, 123, 124, 125, 126, 127, 128, 129, 130, 131, 132, 133] (by decide +kernel) (by decide +kernel)
set_option maxRecDepth 20000 in
theorem gX8_least_X8_makeLeast : GoodIn wsX8_least (wsV RX8 189 RX8 yX8_makeLeast wsX8_makeLeast) := goodIn_app (goodIn_of _ (by decide +kernel)) ggX8_least_X8_makeLeast
set_option maxRecDepth 20000 in
theorem ggX8_least_X8_becomes : GoodIn wsX8_least wsX8_becomes := goodIn_r _ [91, 24, 57, 52, 53, 54, 92, 93, 94, 3, 95, 25, 26, 38, 96, 97, 98, 99, 100, 101, 102, 103, 104, 105, 106, 107, 108, 109, 110, 111, 112, 113, 114, 115, 116, 117, 118, 119, 120, 121, 122, 123, 124, 125, 126, 127, 128, 129, 130, 131, 132, 133] (by decide +kernel) (by decide +kernel)
set_option maxRecDepth 20000 in
theorem gX8_least_X8_becomes : GoodIn wsX8_least (wsV RX8 193 RX8 yX8_becomes wsX8_becomes) := goodIn_app (goodIn_of _ (by decide +kernel)) ggX8_least_X8_becomes
theorem dX8_least_0 : decode cX8_least 0 = .ok (.iload_n 1, 1) := by decide +kernel
theorem dX8_least_1 : decode cX8_least 1 = .ok (.invokestatic 109, 3) := by decide +kernel
theorem dX8_least_4 : decode cX8_least 4 = .ok (.ifCond .eq 10, 3) := by decide +kernel
theorem dX8_least_7 : decode cX8_least 7 = .ok (.iload_n 2, 1) := by decide +kernel
theorem dX8_least_8 : decode cX8_least 8 = .ok (.invokestatic 109, 3) := by decide +kernel
theorem dX8_least_11 : decode cX8_least 11 = .ok (.ifCond .ne 5, 3) := by decide +kernel
theorem dX8_least_14 : decode cX8_least 14 = .ok (.iconst (-1), 1) := by decide +kernel
theorem dX8_least_15 : decode cX8_least 15 = .ok (.ireturn, 1) := by decide +kernel
theorem dX8_least_16 : decode cX8_least 16 = .ok (.aload_n 0, 1) := by decide +kernel
theorem dX8_least_17 : decode cX8_least 17 = .ok (.iconst 3, 1) := by decide +kernel
theorem dX8_least_18 : decode cX8_least 18 = .ok (.iload_n 1, 1) := by decide +kernel
theorem dX8_least_19 : decode cX8_least 19 = .ok (.iload_n 1, 1) := by decide +kernel
theorem dX8_least_20 : decode cX8_least 20 = .ok (.invokevirtual 154, 3) := by decide +kernel
theorem dX8_least_23 : decode cX8_least 23 = .ok (.aload_n 0, 1) := by decide +kernel
theorem dX8_least_24 : decode cX8_least 24 = .ok (.invokevirtual 189, 3) := by decide +kernel
theorem dX8_least_27 : decode cX8_least 27 = .ok (.istore_n 3, 1) := by decide +kernel
theorem dX8_least_28 : decode cX8_least 28 = .ok (.aload_n 0, 1) := by decide +kernel
theorem dX8_least_29 : decode cX8_least 29 = .ok (.iload_n 2, 1) := by decide +kernel
theorem dX8_least_30 : decode cX8_least 30 = .ok (.invokevirtual 193, 3) := by decide +kernel
theorem dX8_least_33 : decode cX8_least 33 = .ok (.ireturn, 1) := by decide +kernel
set_option maxRecDepth 20000 in
theorem ggX8_combine_X8_lies : GoodIn wsX8_combine wsX8_lies := goodIn_r _ [4] (by decide +kernel) (by decide +kernel)
set_option maxRecDepth 20000 in
theorem gX8_combine_X8_lies : GoodIn wsX8_combine (va_wsS RX8 92 yX8_lies wsX8_lies) := goodIn_app (goodIn_of _ (by decide +kernel)) ggX8_combine_X8_lies
set_option maxRecDepth 20000 in
theorem ggX8_combine_X8_isBook : GoodIn wsX8_combine wsX8_isBook := goodIn_r _ [7, 1, 2, 3, 4] (by decide +kernel) (by decide +kernel)
set_option maxRecDepth 20000 in
theorem gX8_combine_X8_isBook : GoodIn wsX8_combine (va_wsS RX8 109 yX8_isBook wsX8_isBook) := goodIn_app (goodIn_of _ (by decide +kernel)) ggX8_combine_X8_isBook
set_option maxRecDepth 20000 in
theorem ggX8_combine_X8_makeSpans : GoodIn wsX8_combine wsX8_makeSpans := goodIn_r _ [11, 12, 13, 14, 15, 16, 17, 3, 18, 19, 20, 21, 22, 23, 24, 25, 26, 27, 28, 29, 30, 31, 32, 33, 34, 35, 36, 37, 38, 39, 40, 41, 42, 43, 44, 45, 100, 101, 102, 103, 104, 105, 106, 107, 108, 109, 110, 111, 112, 113, 114, 115, 116, 117, 118, 119, 120, 121, 122, 123, 124, 125, 126, 127, 128, 129, 130, 131, 132, 133] (by decide +kernel) (by decide +kernel)
set_option maxRecDepth 20000 in
theorem gX8_combine_X8_makeSpans : GoodIn wsX8_combine (wsV RX8 154 RX8 yX8_makeSpans wsX8_makeSpans) := goodIn_app (goodIn_of _ (by decide +kernel)) ggX8_combine_X8_makeSpans
set_option maxRecDepth 20000 in
theorem ggX8_combine_X8_makeLeast : GoodIn wsX8_combine wsX8_makeLeast := goodIn_r _ [49, 50, 51, 52, 53, 54, 55, 56, 14, 57, 58, 59, 60, 3, 61, 62, 12, 13, 63, 64, 27, 28, 29, 65, 66, 67, 68, 69, 70, 71, 72, 73, 74, 75, 76, 77, 78, 79, 80, 81, 82, 83, 84, 19, 85, 86, 87, 100, 101, 102, 103, 104, 105, 106, 107, 108, 109, 110, 111, 112, 113, 114, 115, 116, 117, 118, 119, 120, 121, 122, 123, 124, 125, 126, 127, 128, 129, 130, 131, 132, 133] (by decide +kernel) (by decide +kernel)
set_option maxRecDepth 20000 in
theorem gX8_combine_X8_makeLeast : GoodIn wsX8_combine (wsV RX8 189 RX8 yX8_makeLeast wsX8_makeLeast) := goodIn_app (goodIn_of _ (by decide +kernel)) ggX8_combine_X8_makeLeast
set_option maxRecDepth 20000 in
theorem ggX8_combine_X8_becomes : GoodIn wsX8_combine wsX8_becomes := goodIn_r _ [91, 24, 57, 52, 53, 54, 92, 93, 94, 3, 95, 25, 26, 38, 96, 97, 98, 99, 100, 101, 102, 103, 104, 105, 106, 107, 108, 109, 110, 111, 112, 113, 114, 115, 116, 117, 118, 119, 120, 121, 122, 123, 124, 125, 126, 127, 128, 129, 130, 131, 132, 133] (by decide +kernel) (by decide +kernel)
set_option maxRecDepth 20000 in
theorem gX8_combine_X8_becomes : GoodIn wsX8_combine (wsV RX8 193 RX8 yX8_becomes wsX8_becomes) := goodIn_app (goodIn_of _ (by decide +kernel)) ggX8_combine_X8_becomes
theorem dX8_combine_0 : decode cX8_combine 0 = .ok (.iload_n 1, 1) := by decide +kernel
theorem dX8_combine_1 : decode cX8_combine 1 = .ok (.iconst 0, 1) := by decide +kernel
theorem dX8_combine_2 : decode cX8_combine 2 = .ok (.iconst 2, 1) := by decide +kernel
theorem dX8_combine_3 : decode cX8_combine 3 = .ok (.invokestatic 92, 3) := by decide +kernel
theorem dX8_combine_6 : decode cX8_combine 6 = .ok (.ifCond .eq 25, 3) := by decide +kernel
theorem dX8_combine_9 : decode cX8_combine 9 = .ok (.iload_n 2, 1) := by decide +kernel
theorem dX8_combine_10 : decode cX8_combine 10 = .ok (.invokestatic 109, 3) := by decide +kernel
theorem dX8_combine_13 : decode cX8_combine 13 = .ok (.ifCond .eq 18, 3) := by decide +kernel
theorem dX8_combine_16 : decode cX8_combine 16 = .ok (.iload_n 3, 1) := by decide +kernel
theorem dX8_combine_17 : decode cX8_combine 17 = .ok (.invokestatic 109, 3) := by decide +kernel
theorem dX8_combine_20 : decode cX8_combine 20 = .ok (.ifCond .eq 11, 3) := by decide +kernel
theorem dX8_combine_23 : decode cX8_combine 23 = .ok (.iload 4, 2) := by decide +kernel
theorem dX8_combine_25 : decode cX8_combine 25 = .ok (.invokestatic 109, 3) := by decide +kernel
theorem dX8_combine_28 : decode cX8_combine 28 = .ok (.ifCond .ne 5, 3) := by decide +kernel
theorem dX8_combine_31 : decode cX8_combine 31 = .ok (.iconst (-1), 1) := by decide +kernel
theorem dX8_combine_32 : decode cX8_combine 32 = .ok (.ireturn, 1) := by decide +kernel
theorem dX8_combine_33 : decode cX8_combine 33 = .ok (.aload_n 0, 1) := by decide +kernel
theorem dX8_combine_34 : decode cX8_combine 34 = .ok (.iload_n 1, 1) := by decide +kernel
theorem dX8_combine_35 : decode cX8_combine 35 = .ok (.iload_n 2, 1) := by decide +kernel
theorem dX8_combine_36 : decode cX8_combine 36 = .ok (.iload_n 3, 1) := by decide +kernel
theorem dX8_combine_37 : decode cX8_combine 37 = .ok (.invokevirtual 154, 3) := by decide +kernel
theorem dX8_combine_40 : decode cX8_combine 40 = .ok (.aload_n 0, 1) := by decide +kernel
theorem dX8_combine_41 : decode cX8_combine 41 = .ok (.invokevirtual 189, 3) := by decide +kernel
theorem dX8_combine_44 : decode cX8_combine 44 = .ok (.bipush 64, 2) := by decide +kernel
theorem dX8_combine_46 : decode cX8_combine 46 = .ok (.if_icmp .le 8, 3) := by decide +kernel
theorem dX8_combine_49 : decode cX8_combine 49 = .ok (.bipush (-2), 2) := by decide +kernel
theorem dX8_combine_51 : decode cX8_combine 51 = .ok (.goto 9, 3) := by decide +kernel
theorem dX8_combine_54 : decode cX8_combine 54 = .ok (.aload_n 0, 1) := by decide +kernel
theorem dX8_combine_55 : decode cX8_combine 55 = .ok (.iload 4, 2) := by decide +kernel
theorem dX8_combine_57 : decode cX8_combine 57 = .ok (.invokevirtual 193, 3) := by decide +kernel
theorem dX8_combine_60 : decode cX8_combine 60 = .ok (.ireturn, 1) := by decide +kernel
set_option maxRecDepth 20000 in
theorem ggX8_cover_X8_number : GoodIn wsX8_cover wsX8_number := goodIn_r _ [7, 8] (by decide +kernel) (by decide +kernel)
set_option maxRecDepth 20000 in
theorem gX8_cover_X8_number : GoodIn wsX8_cover (va_wsS RX8 98 yX8_number wsX8_number) := goodIn_app (goodIn_of _ (by decide +kernel)) ggX8_cover_X8_number
set_option maxRecDepth 20000 in
theorem ggX8_cover_X8_size : GoodIn wsX8_cover wsX8_size := goodIn_r _ [11] (by decide +kernel) (by decide +kernel)
set_option maxRecDepth 20000 in
theorem gX8_cover_X8_size : GoodIn wsX8_cover (va_wsS RX8 102 yX8_size wsX8_size) := goodIn_app (goodIn_of _ (by decide +kernel)) ggX8_cover_X8_size
theorem dX8_cover_0 : decode cX8_cover 0 = .ok (.iload_n 1, 1) := by decide +kernel
theorem dX8_cover_1 : decode cX8_cover 1 = .ok (.invokestatic 98, 3) := by decide +kernel
theorem dX8_cover_4 : decode cX8_cover 4 = .ok (.lstore_n 3, 1) := by decide +kernel
theorem dX8_cover_5 : decode cX8_cover 5 = .ok (.iload_n 2, 1) := by decide +kernel
theorem dX8_cover_6 : decode cX8_cover 6 = .ok (.invokestatic 98, 3) := by decide +kernel
theorem dX8_cover_9 : decode cX8_cover 9 = .ok (.lstore 5, 2) := by decide +kernel
theorem dX8_cover_11 : decode cX8_cover 11 = .ok (.lload 5, 2) := by decide +kernel
theorem dX8_cover_13 : decode cX8_cover 13 = .ok (.lload_n 3, 1) := by decide +kernel
theorem dX8_cover_14 : decode cX8_cover 14 = .ok (.lcmp, 1) := by decide +kernel
theorem dX8_cover_15 : decode cX8_cover 15 = .ok (.ifCond .ge 5, 3) := by decide +kernel
theorem dX8_cover_18 : decode cX8_cover 18 = .ok (.iconst (-1), 1) := by decide +kernel
theorem dX8_cover_19 : decode cX8_cover 19 = .ok (.ireturn, 1) := by decide +kernel
theorem dX8_cover_20 : decode cX8_cover 20 = .ok (.aload_n 0, 1) := by decide +kernel
theorem dX8_cover_21 : decode cX8_cover 21 = .ok (.iconst 0, 1) := by decide +kernel
theorem dX8_cover_22 : decode cX8_cover 22 = .ok (.putfield 196, 3) := by decide +kernel
theorem dX8_cover_25 : decode cX8_cover 25 = .ok (.lload_n 3, 1) := by decide +kernel
theorem dX8_cover_26 : decode cX8_cover 26 = .ok (.lload 5, 2) := by decide +kernel
theorem dX8_cover_28 : decode cX8_cover 28 = .ok (.lcmp, 1) := by decide +kernel
theorem dX8_cover_29 : decode cX8_cover 29 = .ok (.ifCond .gt 81, 3) := by decide +kernel
theorem dX8_cover_32 : decode cX8_cover 32 = .ok (.iconst 0, 1) := by decide +kernel
theorem dX8_cover_33 : decode cX8_cover 33 = .ok (.istore 7, 2) := by decide +kernel
theorem dX8_cover_35 : decode cX8_cover 35 = .ok (.lload_n 3, 1) := by decide +kernel
theorem dX8_cover_36 : decode cX8_cover 36 = .ok (.iload 7, 2) := by decide +kernel
theorem dX8_cover_38 : decode cX8_cover 38 = .ok (.invokestatic 102, 3) := by decide +kernel
theorem dX8_cover_41 : decode cX8_cover 41 = .ok (.lrem, 1) := by decide +kernel
theorem dX8_cover_42 : decode cX8_cover 42 = .ok (.lconst 0, 1) := by decide +kernel
theorem dX8_cover_43 : decode cX8_cover 43 = .ok (.lcmp, 1) := by decide +kernel
theorem dX8_cover_44 : decode cX8_cover 44 = .ok (.ifCond .ne 18, 3) := by decide +kernel
theorem dX8_cover_47 : decode cX8_cover 47 = .ok (.lload_n 3, 1) := by decide +kernel
theorem dX8_cover_48 : decode cX8_cover 48 = .ok (.iload 7, 2) := by decide +kernel
theorem dX8_cover_50 : decode cX8_cover 50 = .ok (.invokestatic 102, 3) := by decide +kernel
theorem dX8_cover_53 : decode cX8_cover 53 = .ok (.ladd, 1) := by decide +kernel
theorem dX8_cover_54 : decode cX8_cover 54 = .ok (.lconst 1, 1) := by decide +kernel
theorem dX8_cover_55 : decode cX8_cover 55 = .ok (.lsub, 1) := by decide +kernel
theorem dX8_cover_56 : decode cX8_cover 56 = .ok (.lload 5, 2) := by decide +kernel
theorem dX8_cover_58 : decode cX8_cover 58 = .ok (.lcmp, 1) := by decide +kernel
theorem dX8_cover_59 : decode cX8_cover 59 = .ok (.ifCond .le 9, 3) := by decide +kernel
theorem dX8_cover_62 : decode cX8_cover 62 = .ok (.iinc 7 1, 3) := by decide +kernel
theorem dX8_cover_65 : decode cX8_cover 65 = .ok (.goto (-30), 3) := by decide +kernel
theorem dX8_cover_68 : decode cX8_cover 68 = .ok (.aload_n 0, 1) := by decide +kernel
end
section
theorem dX8_cover_69 : decode cX8_cover 69 = .ok (.getfield 59, 3) := by decide +kernel
theorem dX8_cover_72 : decode cX8_cover 72 = .ok (.aload_n 0, 1) := by decide +kernel
theorem dX8_cover_73 : decode cX8_cover 73 = .ok (.getfield 196, 3) := by decide +kernel
theorem dX8_cover_76 : decode cX8_cover 76 = .ok (.lload_n 3, 1) := by decide +kernel
theorem dX8_cover_77 : decode cX8_cover 77 = .ok (.lastore, 1) := by decide +kernel
theorem dX8_cover_78 : decode cX8_cover 78 = .ok (.aload_n 0, 1) := by decide +kernel
theorem dX8_cover_79 : decode cX8_cover 79 = .ok (.getfield 62, 3) := by decide +kernel
theorem dX8_cover_82 : decode cX8_cover 82 = .ok (.aload_n 0, 1) := by decide +kernel
theorem dX8_cover_83 : decode cX8_cover 83 = .ok (.getfield 196, 3) := by decide +kernel
theorem dX8_cover_86 : decode cX8_cover 86 = .ok (.iload 7, 2) := by decide +kernel
theorem dX8_cover_88 : decode cX8_cover 88 = .ok (.iastore, 1) := by decide +kernel
theorem dX8_cover_89 : decode cX8_cover 89 = .ok (.aload_n 0, 1) := by decide +kernel
theorem dX8_cover_90 : decode cX8_cover 90 = .ok (.dup, 1) := by decide +kernel
theorem dX8_cover_91 : decode cX8_cover 91 = .ok (.getfield 196, 3) := by decide +kernel
theorem dX8_cover_94 : decode cX8_cover 94 = .ok (.iconst 1, 1) := by decide +kernel
theorem dX8_cover_95 : decode cX8_cover 95 = .ok (.iadd, 1) := by decide +kernel
theorem dX8_cover_96 : decode cX8_cover 96 = .ok (.putfield 196, 3) := by decide +kernel
theorem dX8_cover_99 : decode cX8_cover 99 = .ok (.lload_n 3, 1) := by decide +kernel
theorem dX8_cover_100 : decode cX8_cover 100 = .ok (.iload 7, 2) := by decide +kernel
theorem dX8_cover_102 : decode cX8_cover 102 = .ok (.invokestatic 102, 3) := by decide +kernel
theorem dX8_cover_105 : decode cX8_cover 105 = .ok (.ladd, 1) := by decide +kernel
theorem dX8_cover_106 : decode cX8_cover 106 = .ok (.lstore_n 3, 1) := by decide +kernel
theorem dX8_cover_107 : decode cX8_cover 107 = .ok (.goto (-82), 3) := by decide +kernel
theorem dX8_cover_110 : decode cX8_cover 110 = .ok (.aload_n 0, 1) := by decide +kernel
theorem dX8_cover_111 : decode cX8_cover 111 = .ok (.getfield 196, 3) := by decide +kernel
theorem dX8_cover_114 : decode cX8_cover 114 = .ok (.ireturn, 1) := by decide +kernel
set_option maxRecDepth 20000 in
theorem ggX8_piece_X8_lies : GoodIn wsX8_piece wsX8_lies := goodIn_r _ [8] (by decide +kernel) (by decide +kernel)
set_option maxRecDepth 20000 in
theorem gX8_piece_X8_lies : GoodIn wsX8_piece (va_wsS RX8 92 yX8_lies wsX8_lies) := goodIn_app (goodIn_of _ (by decide +kernel)) ggX8_piece_X8_lies
theorem dX8_piece_0 : decode cX8_piece 0 = .ok (.iload_n 1, 1) := by decide +kernel
theorem dX8_piece_1 : decode cX8_piece 1 = .ok (.iconst 0, 1) := by decide +kernel
theorem dX8_piece_2 : decode cX8_piece 2 = .ok (.aload_n 0, 1) := by decide +kernel
theorem dX8_piece_3 : decode cX8_piece 3 = .ok (.getfield 196, 3) := by decide +kernel
theorem dX8_piece_6 : decode cX8_piece 6 = .ok (.iconst 1, 1) := by decide +kernel
theorem dX8_piece_7 : decode cX8_piece 7 = .ok (.isub, 1) := by decide +kernel
theorem dX8_piece_8 : decode cX8_piece 8 = .ok (.invokestatic 92, 3) := by decide +kernel
theorem dX8_piece_11 : decode cX8_piece 11 = .ok (.ifCond .ne 7, 3) := by decide +kernel
theorem dX8_piece_14 : decode cX8_piece 14 = .ok (.ldc2_w 124, 3) := by decide +kernel
theorem dX8_piece_17 : decode cX8_piece 17 = .ok (.lreturn, 1) := by decide +kernel
theorem dX8_piece_18 : decode cX8_piece 18 = .ok (.iload_n 2, 1) := by decide +kernel
theorem dX8_piece_19 : decode cX8_piece 19 = .ok (.ifCond .ne 12, 3) := by decide +kernel
theorem dX8_piece_22 : decode cX8_piece 22 = .ok (.aload_n 0, 1) := by decide +kernel
theorem dX8_piece_23 : decode cX8_piece 23 = .ok (.getfield 59, 3) := by decide +kernel
theorem dX8_piece_26 : decode cX8_piece 26 = .ok (.iload_n 1, 1) := by decide +kernel
theorem dX8_piece_27 : decode cX8_piece 27 = .ok (.laload, 1) := by decide +kernel
theorem dX8_piece_28 : decode cX8_piece 28 = .ok (.goto 21, 3) := by decide +kernel
theorem dX8_piece_31 : decode cX8_piece 31 = .ok (.iload_n 2, 1) := by decide +kernel
theorem dX8_piece_32 : decode cX8_piece 32 = .ok (.iconst 1, 1) := by decide +kernel
theorem dX8_piece_33 : decode cX8_piece 33 = .ok (.if_icmp .ne 13, 3) := by decide +kernel
theorem dX8_piece_36 : decode cX8_piece 36 = .ok (.aload_n 0, 1) := by decide +kernel
theorem dX8_piece_37 : decode cX8_piece 37 = .ok (.getfield 62, 3) := by decide +kernel
theorem dX8_piece_40 : decode cX8_piece 40 = .ok (.iload_n 1, 1) := by decide +kernel
theorem dX8_piece_41 : decode cX8_piece 41 = .ok (.iaload, 1) := by decide +kernel
theorem dX8_piece_42 : decode cX8_piece 42 = .ok (.i2l, 1) := by decide +kernel
theorem dX8_piece_43 : decode cX8_piece 43 = .ok (.goto 6, 3) := by decide +kernel
theorem dX8_piece_46 : decode cX8_piece 46 = .ok (.ldc2_w 124, 3) := by decide +kernel
theorem dX8_piece_49 : decode cX8_piece 49 = .ok (.lreturn, 1) := by decide +kernel
theorem dX8_step_0 : decode cX8_step 0 = .ok (.aload_n 0, 1) := by decide +kernel
theorem dX8_step_1 : decode cX8_step 1 = .ok (.getfield 65, 3) := by decide +kernel
theorem dX8_step_4 : decode cX8_step 4 = .ok (.aload_n 0, 1) := by decide +kernel
theorem dX8_step_5 : decode cX8_step 5 = .ok (.getfield 199, 3) := by decide +kernel
theorem dX8_step_8 : decode cX8_step 8 = .ok (.iload_n 1, 1) := by decide +kernel
theorem dX8_step_9 : decode cX8_step 9 = .ok (.iastore, 1) := by decide +kernel
theorem dX8_step_10 : decode cX8_step 10 = .ok (.aload_n 0, 1) := by decide +kernel
theorem dX8_step_11 : decode cX8_step 11 = .ok (.getfield 68, 3) := by decide +kernel
theorem dX8_step_14 : decode cX8_step 14 = .ok (.aload_n 0, 1) := by decide +kernel
theorem dX8_step_15 : decode cX8_step 15 = .ok (.getfield 199, 3) := by decide +kernel
theorem dX8_step_18 : decode cX8_step 18 = .ok (.lload_n 2, 1) := by decide +kernel
theorem dX8_step_19 : decode cX8_step 19 = .ok (.lastore, 1) := by decide +kernel
theorem dX8_step_20 : decode cX8_step 20 = .ok (.aload_n 0, 1) := by decide +kernel
theorem dX8_step_21 : decode cX8_step 21 = .ok (.getfield 71, 3) := by decide +kernel
theorem dX8_step_24 : decode cX8_step 24 = .ok (.aload_n 0, 1) := by decide +kernel
theorem dX8_step_25 : decode cX8_step 25 = .ok (.getfield 199, 3) := by decide +kernel
theorem dX8_step_28 : decode cX8_step 28 = .ok (.iload 4, 2) := by decide +kernel
theorem dX8_step_30 : decode cX8_step 30 = .ok (.iastore, 1) := by decide +kernel
theorem dX8_step_31 : decode cX8_step 31 = .ok (.aload_n 0, 1) := by decide +kernel
theorem dX8_step_32 : decode cX8_step 32 = .ok (.getfield 74, 3) := by decide +kernel
theorem dX8_step_35 : decode cX8_step 35 = .ok (.aload_n 0, 1) := by decide +kernel
theorem dX8_step_36 : decode cX8_step 36 = .ok (.getfield 199, 3) := by decide +kernel
theorem dX8_step_39 : decode cX8_step 39 = .ok (.iload 5, 2) := by decide +kernel
theorem dX8_step_41 : decode cX8_step 41 = .ok (.iastore, 1) := by decide +kernel
theorem dX8_step_42 : decode cX8_step 42 = .ok (.aload_n 0, 1) := by decide +kernel
theorem dX8_step_43 : decode cX8_step 43 = .ok (.dup, 1) := by decide +kernel
theorem dX8_step_44 : decode cX8_step 44 = .ok (.getfield 199, 3) := by decide +kernel
theorem dX8_step_47 : decode cX8_step 47 = .ok (.iconst 1, 1) := by decide +kernel
theorem dX8_step_48 : decode cX8_step 48 = .ok (.iadd, 1) := by decide +kernel
theorem dX8_step_49 : decode cX8_step 49 = .ok (.putfield 199, 3) := by decide +kernel
theorem dX8_step_52 : decode cX8_step 52 = .ok (.return_, 1) := by decide +kernel
set_option maxRecDepth 20000 in
theorem ggX8_way_X8_isBook : GoodIn wsX8_way wsX8_isBook := goodIn_r _ [14, 15, 16, 13, 17] (by decide +kernel) (by decide +kernel)
set_option maxRecDepth 20000 in
theorem gX8_way_X8_isBook : GoodIn wsX8_way (va_wsS RX8 109 yX8_isBook wsX8_isBook) := goodIn_app (goodIn_of _ (by decide +kernel)) ggX8_way_X8_isBook
set_option maxRecDepth 20000 in
theorem ggX8_way_X8_at : GoodIn wsX8_way wsX8_at := goodIn_r _ [21, 3, 4, 5, 30, 31, 32, 33, 34, 35, 36, 37, 38, 39, 40, 41, 42, 43, 44, 45, 46, 47, 48, 49, 50, 51, 52, 53, 54, 55, 56, 57, 58, 59, 60, 61, 62, 63] (by decide +kernel) (by decide +kernel)
set_option maxRecDepth 20000 in
theorem gX8_way_X8_at : GoodIn wsX8_way (wsV RX8 117 RX8 yX8_at wsX8_at) := goodIn_app (goodIn_of _ (by decide +kernel)) ggX8_way_X8_at
set_option maxRecDepth 20000 in
theorem ggX8_way_X8_step : GoodIn wsX8_way wsX8_step := goodIn_r _ [25, 26, 2, 27, 28, 29, 30, 31, 32, 33, 34, 35, 36, 37, 38, 39, 40, 41, 42, 43, 44, 45, 46, 47, 48, 49, 50, 51, 52, 53, 54, 55, 56, 57, 58, 59, 60, 61, 62, 63] (by decide +kernel) (by decide +kernel)
set_option maxRecDepth 20000 in
theorem gX8_way_X8_step : GoodIn wsX8_way (wsV RX8 206 RX8 yX8_step wsX8_step) := goodIn_app (goodIn_of _ (by decide +kernel)) ggX8_way_X8_step
theorem dX8_way_0 : decode cX8_way 0 = .ok (.iload_n 1, 1) := by decide +kernel
theorem dX8_way_1 : decode cX8_way 1 = .ok (.invokestatic 109, 3) := by decide +kernel
theorem dX8_way_4 : decode cX8_way 4 = .ok (.ifCond .eq 10, 3) := by decide +kernel
theorem dX8_way_7 : decode cX8_way 7 = .ok (.iload_n 2, 1) := by decide +kernel
theorem dX8_way_8 : decode cX8_way 8 = .ok (.invokestatic 109, 3) := by decide +kernel
theorem dX8_way_11 : decode cX8_way 11 = .ok (.ifCond .ne 5, 3) := by decide +kernel
theorem dX8_way_14 : decode cX8_way 14 = .ok (.iconst (-1), 1) := by decide +kernel
theorem dX8_way_15 : decode cX8_way 15 = .ok (.ireturn, 1) := by decide +kernel
theorem dX8_way_16 : decode cX8_way 16 = .ok (.aload_n 0, 1) := by decide +kernel
theorem dX8_way_17 : decode cX8_way 17 = .ok (.iconst 1, 1) := by decide +kernel
theorem dX8_way_18 : decode cX8_way 18 = .ok (.putfield 202, 3) := by decide +kernel
theorem dX8_way_21 : decode cX8_way 21 = .ok (.aload_n 0, 1) := by decide +kernel
theorem dX8_way_22 : decode cX8_way 22 = .ok (.iconst 0, 1) := by decide +kernel
theorem dX8_way_23 : decode cX8_way 23 = .ok (.putfield 199, 3) := by decide +kernel
theorem dX8_way_26 : decode cX8_way 26 = .ok (.bipush 32, 2) := by decide +kernel
theorem dX8_way_28 : decode cX8_way 28 = .ok (.istore_n 3, 1) := by decide +kernel
theorem dX8_way_29 : decode cX8_way 29 = .ok (.iload_n 3, 1) := by decide +kernel
theorem dX8_way_30 : decode cX8_way 30 = .ok (.ifCond .lt 118, 3) := by decide +kernel
theorem dX8_way_33 : decode cX8_way 33 = .ok (.iconst 0, 1) := by decide +kernel
theorem dX8_way_34 : decode cX8_way 34 = .ok (.istore 4, 2) := by decide +kernel
theorem dX8_way_36 : decode cX8_way 36 = .ok (.iload 4, 2) := by decide +kernel
theorem dX8_way_38 : decode cX8_way 38 = .ok (.aload_n 0, 1) := by decide +kernel
theorem dX8_way_39 : decode cX8_way 39 = .ok (.getfield 7, 3) := by decide +kernel
theorem dX8_way_42 : decode cX8_way 42 = .ok (.iload_n 2, 1) := by decide +kernel
theorem dX8_way_43 : decode cX8_way 43 = .ok (.iaload, 1) := by decide +kernel
theorem dX8_way_44 : decode cX8_way 44 = .ok (.if_icmp .ge 98, 3) := by decide +kernel
theorem dX8_way_47 : decode cX8_way 47 = .ok (.bipush 64, 2) := by decide +kernel
theorem dX8_way_49 : decode cX8_way 49 = .ok (.iload_n 2, 1) := by decide +kernel
theorem dX8_way_50 : decode cX8_way 50 = .ok (.imul, 1) := by decide +kernel
theorem dX8_way_51 : decode cX8_way 51 = .ok (.iload 4, 2) := by decide +kernel
theorem dX8_way_53 : decode cX8_way 53 = .ok (.iadd, 1) := by decide +kernel
theorem dX8_way_54 : decode cX8_way 54 = .ok (.istore 5, 2) := by decide +kernel
theorem dX8_way_56 : decode cX8_way 56 = .ok (.aload_n 0, 1) := by decide +kernel
theorem dX8_way_57 : decode cX8_way 57 = .ok (.iload_n 1, 1) := by decide +kernel
theorem dX8_way_58 : decode cX8_way 58 = .ok (.aload_n 0, 1) := by decide +kernel
theorem dX8_way_59 : decode cX8_way 59 = .ok (.getfield 13, 3) := by decide +kernel
theorem dX8_way_62 : decode cX8_way 62 = .ok (.iload 5, 2) := by decide +kernel
theorem dX8_way_64 : decode cX8_way 64 = .ok (.laload, 1) := by decide +kernel
theorem dX8_way_65 : decode cX8_way 65 = .ok (.aload_n 0, 1) := by decide +kernel
theorem dX8_way_66 : decode cX8_way 66 = .ok (.getfield 17, 3) := by decide +kernel
theorem dX8_way_69 : decode cX8_way 69 = .ok (.iload 5, 2) := by decide +kernel
theorem dX8_way_71 : decode cX8_way 71 = .ok (.iaload, 1) := by decide +kernel
theorem dX8_way_72 : decode cX8_way 72 = .ok (.invokevirtual 117, 3) := by decide +kernel
theorem dX8_way_75 : decode cX8_way 75 = .ok (.istore 6, 2) := by decide +kernel
theorem dX8_way_77 : decode cX8_way 77 = .ok (.aload_n 0, 1) := by decide +kernel
theorem dX8_way_78 : decode cX8_way 78 = .ok (.getfield 17, 3) := by decide +kernel
theorem dX8_way_81 : decode cX8_way 81 = .ok (.iload 5, 2) := by decide +kernel
theorem dX8_way_83 : decode cX8_way 83 = .ok (.iaload, 1) := by decide +kernel
theorem dX8_way_84 : decode cX8_way 84 = .ok (.iload_n 3, 1) := by decide +kernel
theorem dX8_way_85 : decode cX8_way 85 = .ok (.if_icmp .ne 51, 3) := by decide +kernel
theorem dX8_way_88 : decode cX8_way 88 = .ok (.iload 6, 2) := by decide +kernel
theorem dX8_way_90 : decode cX8_way 90 = .ok (.iconst (-1), 1) := by decide +kernel
theorem dX8_way_91 : decode cX8_way 91 = .ok (.if_icmp .eq 25, 3) := by decide +kernel
theorem dX8_way_94 : decode cX8_way 94 = .ok (.aload_n 0, 1) := by decide +kernel
theorem dX8_way_95 : decode cX8_way 95 = .ok (.getfield 20, 3) := by decide +kernel
theorem dX8_way_98 : decode cX8_way 98 = .ok (.bipush 64, 2) := by decide +kernel
theorem dX8_way_100 : decode cX8_way 100 = .ok (.iload_n 1, 1) := by decide +kernel
theorem dX8_way_101 : decode cX8_way 101 = .ok (.imul, 1) := by decide +kernel
theorem dX8_way_102 : decode cX8_way 102 = .ok (.iload 6, 2) := by decide +kernel
theorem dX8_way_104 : decode cX8_way 104 = .ok (.iadd, 1) := by decide +kernel
theorem dX8_way_105 : decode cX8_way 105 = .ok (.iaload, 1) := by decide +kernel
theorem dX8_way_106 : decode cX8_way 106 = .ok (.aload_n 0, 1) := by decide +kernel
theorem dX8_way_107 : decode cX8_way 107 = .ok (.getfield 20, 3) := by decide +kernel
theorem dX8_way_110 : decode cX8_way 110 = .ok (.iload 5, 2) := by decide +kernel
theorem dX8_way_112 : decode cX8_way 112 = .ok (.iaload, 1) := by decide +kernel
theorem dX8_way_113 : decode cX8_way 113 = .ok (.if_icmp .eq 23, 3) := by decide +kernel
theorem dX8_way_116 : decode cX8_way 116 = .ok (.aload_n 0, 1) := by decide +kernel
theorem dX8_way_117 : decode cX8_way 117 = .ok (.iconst 1, 1) := by decide +kernel
theorem dX8_way_118 : decode cX8_way 118 = .ok (.aload_n 0, 1) := by decide +kernel
theorem dX8_way_119 : decode cX8_way 119 = .ok (.getfield 13, 3) := by decide +kernel
theorem dX8_way_122 : decode cX8_way 122 = .ok (.iload 5, 2) := by decide +kernel
theorem dX8_way_124 : decode cX8_way 124 = .ok (.laload, 1) := by decide +kernel
theorem dX8_way_125 : decode cX8_way 125 = .ok (.iload_n 3, 1) := by decide +kernel
theorem dX8_way_126 : decode cX8_way 126 = .ok (.aload_n 0, 1) := by decide +kernel
theorem dX8_way_127 : decode cX8_way 127 = .ok (.getfield 20, 3) := by decide +kernel
theorem dX8_way_130 : decode cX8_way 130 = .ok (.iload 5, 2) := by decide +kernel
theorem dX8_way_132 : decode cX8_way 132 = .ok (.iaload, 1) := by decide +kernel
theorem dX8_way_133 : decode cX8_way 133 = .ok (.invokevirtual 206, 3) := by decide +kernel
theorem dX8_way_136 : decode cX8_way 136 = .ok (.iinc 4 1, 3) := by decide +kernel
theorem dX8_way_139 : decode cX8_way 139 = .ok (.goto (-103), 3) := by decide +kernel
theorem dX8_way_142 : decode cX8_way 142 = .ok (.iinc 3 (-1), 3) := by decide +kernel
theorem dX8_way_145 : decode cX8_way 145 = .ok (.goto (-116), 3) := by decide +kernel
theorem dX8_way_148 : decode cX8_way 148 = .ok (.iconst 0, 1) := by decide +kernel
theorem dX8_way_149 : decode cX8_way 149 = .ok (.istore_n 3, 1) := by decide +kernel
theorem dX8_way_150 : decode cX8_way 150 = .ok (.iload_n 3, 1) := by decide +kernel
theorem dX8_way_151 : decode cX8_way 151 = .ok (.bipush 32, 2) := by decide +kernel
theorem dX8_way_153 : decode cX8_way 153 = .ok (.if_icmp .gt 86, 3) := by decide +kernel
theorem dX8_way_156 : decode cX8_way 156 = .ok (.iconst 0, 1) := by decide +kernel
theorem dX8_way_157 : decode cX8_way 157 = .ok (.istore 4, 2) := by decide +kernel
theorem dX8_way_159 : decode cX8_way 159 = .ok (.iload 4, 2) := by decide +kernel
theorem dX8_way_161 : decode cX8_way 161 = .ok (.aload_n 0, 1) := by decide +kernel
theorem dX8_way_162 : decode cX8_way 162 = .ok (.getfield 7, 3) := by decide +kernel
theorem dX8_way_165 : decode cX8_way 165 = .ok (.iload_n 1, 1) := by decide +kernel
theorem dX8_way_166 : decode cX8_way 166 = .ok (.iaload, 1) := by decide +kernel
theorem dX8_way_167 : decode cX8_way 167 = .ok (.if_icmp .ge 66, 3) := by decide +kernel
theorem dX8_way_170 : decode cX8_way 170 = .ok (.bipush 64, 2) := by decide +kernel
theorem dX8_way_172 : decode cX8_way 172 = .ok (.iload_n 1, 1) := by decide +kernel
theorem dX8_way_173 : decode cX8_way 173 = .ok (.imul, 1) := by decide +kernel
theorem dX8_way_174 : decode cX8_way 174 = .ok (.iload 4, 2) := by decide +kernel
theorem dX8_way_176 : decode cX8_way 176 = .ok (.iadd, 1) := by decide +kernel
theorem dX8_way_177 : decode cX8_way 177 = .ok (.istore 5, 2) := by decide +kernel
theorem dX8_way_179 : decode cX8_way 179 = .ok (.aload_n 0, 1) := by decide +kernel
theorem dX8_way_180 : decode cX8_way 180 = .ok (.getfield 17, 3) := by decide +kernel
theorem dX8_way_183 : decode cX8_way 183 = .ok (.iload 5, 2) := by decide +kernel
theorem dX8_way_185 : decode cX8_way 185 = .ok (.iaload, 1) := by decide +kernel
theorem dX8_way_186 : decode cX8_way 186 = .ok (.iload_n 3, 1) := by decide +kernel
theorem dX8_way_187 : decode cX8_way 187 = .ok (.if_icmp .ne 40, 3) := by decide +kernel
theorem dX8_way_190 : decode cX8_way 190 = .ok (.aload_n 0, 1) := by decide +kernel
theorem dX8_way_191 : decode cX8_way 191 = .ok (.iload_n 2, 1) := by decide +kernel
theorem dX8_way_192 : decode cX8_way 192 = .ok (.aload_n 0, 1) := by decide +kernel
theorem dX8_way_193 : decode cX8_way 193 = .ok (.getfield 13, 3) := by decide +kernel
theorem dX8_way_196 : decode cX8_way 196 = .ok (.iload 5, 2) := by decide +kernel
theorem dX8_way_198 : decode cX8_way 198 = .ok (.laload, 1) := by decide +kernel
theorem dX8_way_199 : decode cX8_way 199 = .ok (.iload_n 3, 1) := by decide +kernel
theorem dX8_way_200 : decode cX8_way 200 = .ok (.invokevirtual 117, 3) := by decide +kernel
theorem dX8_way_203 : decode cX8_way 203 = .ok (.iconst (-1), 1) := by decide +kernel
theorem dX8_way_204 : decode cX8_way 204 = .ok (.if_icmp .ne 23, 3) := by decide +kernel
theorem dX8_way_207 : decode cX8_way 207 = .ok (.aload_n 0, 1) := by decide +kernel
theorem dX8_way_208 : decode cX8_way 208 = .ok (.iconst 0, 1) := by decide +kernel
theorem dX8_way_209 : decode cX8_way 209 = .ok (.aload_n 0, 1) := by decide +kernel
theorem dX8_way_210 : decode cX8_way 210 = .ok (.getfield 13, 3) := by decide +kernel
theorem dX8_way_213 : decode cX8_way 213 = .ok (.iload 5, 2) := by decide +kernel
theorem dX8_way_215 : decode cX8_way 215 = .ok (.laload, 1) := by decide +kernel
theorem dX8_way_216 : decode cX8_way 216 = .ok (.iload_n 3, 1) := by decide +kernel
theorem dX8_way_217 : decode cX8_way 217 = .ok (.aload_n 0, 1) := by decide +kernel
theorem dX8_way_218 : decode cX8_way 218 = .ok (.getfield 20, 3) := by decide +kernel
theorem dX8_way_221 : decode cX8_way 221 = .ok (.iload 5, 2) := by decide +kernel
theorem dX8_way_223 : decode cX8_way 223 = .ok (.iaload, 1) := by decide +kernel
theorem dX8_way_224 : decode cX8_way 224 = .ok (.invokevirtual 206, 3) := by decide +kernel
theorem dX8_way_227 : decode cX8_way 227 = .ok (.iinc 4 1, 3) := by decide +kernel
theorem dX8_way_230 : decode cX8_way 230 = .ok (.goto (-71), 3) := by decide +kernel
theorem dX8_way_233 : decode cX8_way 233 = .ok (.iinc 3 1, 3) := by decide +kernel
theorem dX8_way_236 : decode cX8_way 236 = .ok (.goto (-86), 3) := by decide +kernel
theorem dX8_way_239 : decode cX8_way 239 = .ok (.aload_n 0, 1) := by decide +kernel
theorem dX8_way_240 : decode cX8_way 240 = .ok (.aload_n 0, 1) := by decide +kernel
theorem dX8_way_241 : decode cX8_way 241 = .ok (.getfield 7, 3) := by decide +kernel
theorem dX8_way_244 : decode cX8_way 244 = .ok (.iload_n 1, 1) := by decide +kernel
theorem dX8_way_245 : decode cX8_way 245 = .ok (.iaload, 1) := by decide +kernel
theorem dX8_way_246 : decode cX8_way 246 = .ok (.putfield 209, 3) := by decide +kernel
theorem dX8_way_249 : decode cX8_way 249 = .ok (.iconst 0, 1) := by decide +kernel
theorem dX8_way_250 : decode cX8_way 250 = .ok (.istore_n 3, 1) := by decide +kernel
theorem dX8_way_251 : decode cX8_way 251 = .ok (.iload_n 3, 1) := by decide +kernel
theorem dX8_way_252 : decode cX8_way 252 = .ok (.aload_n 0, 1) := by decide +kernel
theorem dX8_way_253 : decode cX8_way 253 = .ok (.getfield 7, 3) := by decide +kernel
theorem dX8_way_256 : decode cX8_way 256 = .ok (.iload_n 1, 1) := by decide +kernel
theorem dX8_way_257 : decode cX8_way 257 = .ok (.iaload, 1) := by decide +kernel
theorem dX8_way_258 : decode cX8_way 258 = .ok (.if_icmp .ge 60, 3) := by decide +kernel
theorem dX8_way_261 : decode cX8_way 261 = .ok (.aload_n 0, 1) := by decide +kernel
theorem dX8_way_262 : decode cX8_way 262 = .ok (.getfield 77, 3) := by decide +kernel
theorem dX8_way_265 : decode cX8_way 265 = .ok (.iload_n 3, 1) := by decide +kernel
theorem dX8_way_266 : decode cX8_way 266 = .ok (.aload_n 0, 1) := by decide +kernel
theorem dX8_way_267 : decode cX8_way 267 = .ok (.getfield 13, 3) := by decide +kernel
theorem dX8_way_270 : decode cX8_way 270 = .ok (.bipush 64, 2) := by decide +kernel
theorem dX8_way_272 : decode cX8_way 272 = .ok (.iload_n 1, 1) := by decide +kernel
theorem dX8_way_273 : decode cX8_way 273 = .ok (.imul, 1) := by decide +kernel
theorem dX8_way_274 : decode cX8_way 274 = .ok (.iload_n 3, 1) := by decide +kernel
theorem dX8_way_275 : decode cX8_way 275 = .ok (.iadd, 1) := by decide +kernel
theorem dX8_way_276 : decode cX8_way 276 = .ok (.laload, 1) := by decide +kernel
theorem dX8_way_277 : decode cX8_way 277 = .ok (.lastore, 1) := by decide +kernel
theorem dX8_way_278 : decode cX8_way 278 = .ok (.aload_n 0, 1) := by decide +kernel
theorem dX8_way_279 : decode cX8_way 279 = .ok (.getfield 80, 3) := by decide +kernel
theorem dX8_way_282 : decode cX8_way 282 = .ok (.iload_n 3, 1) := by decide +kernel
theorem dX8_way_283 : decode cX8_way 283 = .ok (.aload_n 0, 1) := by decide +kernel
theorem dX8_way_284 : decode cX8_way 284 = .ok (.getfield 17, 3) := by decide +kernel
theorem dX8_way_287 : decode cX8_way 287 = .ok (.bipush 64, 2) := by decide +kernel
theorem dX8_way_289 : decode cX8_way 289 = .ok (.iload_n 1, 1) := by decide +kernel
theorem dX8_way_290 : decode cX8_way 290 = .ok (.imul, 1) := by decide +kernel
theorem dX8_way_291 : decode cX8_way 291 = .ok (.iload_n 3, 1) := by decide +kernel
theorem dX8_way_292 : decode cX8_way 292 = .ok (.iadd, 1) := by decide +kernel
theorem dX8_way_293 : decode cX8_way 293 = .ok (.iaload, 1) := by decide +kernel
theorem dX8_way_294 : decode cX8_way 294 = .ok (.iastore, 1) := by decide +kernel
theorem dX8_way_295 : decode cX8_way 295 = .ok (.aload_n 0, 1) := by decide +kernel
theorem dX8_way_296 : decode cX8_way 296 = .ok (.getfield 83, 3) := by decide +kernel
theorem dX8_way_299 : decode cX8_way 299 = .ok (.iload_n 3, 1) := by decide +kernel
theorem dX8_way_300 : decode cX8_way 300 = .ok (.aload_n 0, 1) := by decide +kernel
theorem dX8_way_301 : decode cX8_way 301 = .ok (.getfield 20, 3) := by decide +kernel
theorem dX8_way_304 : decode cX8_way 304 = .ok (.bipush 64, 2) := by decide +kernel
theorem dX8_way_306 : decode cX8_way 306 = .ok (.iload_n 1, 1) := by decide +kernel
theorem dX8_way_307 : decode cX8_way 307 = .ok (.imul, 1) := by decide +kernel
theorem dX8_way_308 : decode cX8_way 308 = .ok (.iload_n 3, 1) := by decide +kernel
theorem dX8_way_309 : decode cX8_way 309 = .ok (.iadd, 1) := by decide +kernel
theorem dX8_way_310 : decode cX8_way 310 = .ok (.iaload, 1) := by decide +kernel
theorem dX8_way_311 : decode cX8_way 311 = .ok (.iastore, 1) := by decide +kernel
theorem dX8_way_312 : decode cX8_way 312 = .ok (.iinc 3 1, 3) := by decide +kernel
theorem dX8_way_315 : decode cX8_way 315 = .ok (.goto (-64), 3) := by decide +kernel
theorem dX8_way_318 : decode cX8_way 318 = .ok (.aload_n 0, 1) := by decide +kernel
theorem dX8_way_319 : decode cX8_way 319 = .ok (.getfield 199, 3) := by decide +kernel
theorem dX8_way_322 : decode cX8_way 322 = .ok (.ireturn, 1) := by decide +kernel
set_option maxRecDepth 20000 in
theorem ggX8_step__X8_lies : GoodIn wsX8_step_ wsX8_lies := goodIn_r _ [11] (by decide +kernel) (by decide +kernel)
set_option maxRecDepth 20000 in
theorem gX8_step__X8_lies : GoodIn wsX8_step_ (va_wsS RX8 92 yX8_lies wsX8_lies) := goodIn_app (goodIn_of _ (by decide +kernel)) ggX8_step__X8_lies
theorem dX8_step__0 : decode cX8_step_ 0 = .ok (.aload_n 0, 1) := by decide +kernel
theorem dX8_step__1 : decode cX8_step_ 1 = .ok (.getfield 202, 3) := by decide +kernel
theorem dX8_step__4 : decode cX8_step_ 4 = .ok (.ifCond .eq 17, 3) := by decide +kernel
theorem dX8_step__7 : decode cX8_step_ 7 = .ok (.iload_n 1, 1) := by decide +kernel
theorem dX8_step__8 : decode cX8_step_ 8 = .ok (.iconst 0, 1) := by decide +kernel
theorem dX8_step__9 : decode cX8_step_ 9 = .ok (.aload_n 0, 1) := by decide +kernel
theorem dX8_step__10 : decode cX8_step_ 10 = .ok (.getfield 199, 3) := by decide +kernel
theorem dX8_step__13 : decode cX8_step_ 13 = .ok (.iconst 1, 1) := by decide +kernel
theorem dX8_step__14 : decode cX8_step_ 14 = .ok (.isub, 1) := by decide +kernel
theorem dX8_step__15 : decode cX8_step_ 15 = .ok (.invokestatic 92, 3) := by decide +kernel
theorem dX8_step__18 : decode cX8_step_ 18 = .ok (.ifCond .ne 7, 3) := by decide +kernel
theorem dX8_step__21 : decode cX8_step_ 21 = .ok (.ldc2_w 124, 3) := by decide +kernel
theorem dX8_step__24 : decode cX8_step_ 24 = .ok (.lreturn, 1) := by decide +kernel
theorem dX8_step__25 : decode cX8_step_ 25 = .ok (.iload_n 2, 1) := by decide +kernel
theorem dX8_step__26 : decode cX8_step_ 26 = .ok (.tableswitch 61 0 3 #[30, 38, 45, 53], 30) := by decide +kernel
theorem dX8_step__56 : decode cX8_step_ 56 = .ok (.aload_n 0, 1) := by decide +kernel
theorem dX8_step__57 : decode cX8_step_ 57 = .ok (.getfield 65, 3) := by decide +kernel
theorem dX8_step__60 : decode cX8_step_ 60 = .ok (.iload_n 1, 1) := by decide +kernel
theorem dX8_step__61 : decode cX8_step_ 61 = .ok (.iaload, 1) := by decide +kernel
theorem dX8_step__62 : decode cX8_step_ 62 = .ok (.i2l, 1) := by decide +kernel
theorem dX8_step__63 : decode cX8_step_ 63 = .ok (.lreturn, 1) := by decide +kernel
theorem dX8_step__64 : decode cX8_step_ 64 = .ok (.aload_n 0, 1) := by decide +kernel
theorem dX8_step__65 : decode cX8_step_ 65 = .ok (.getfield 68, 3) := by decide +kernel
theorem dX8_step__68 : decode cX8_step_ 68 = .ok (.iload_n 1, 1) := by decide +kernel
theorem dX8_step__69 : decode cX8_step_ 69 = .ok (.laload, 1) := by decide +kernel
theorem dX8_step__70 : decode cX8_step_ 70 = .ok (.lreturn, 1) := by decide +kernel
theorem dX8_step__71 : decode cX8_step_ 71 = .ok (.aload_n 0, 1) := by decide +kernel
theorem dX8_step__72 : decode cX8_step_ 72 = .ok (.getfield 71, 3) := by decide +kernel
theorem dX8_step__75 : decode cX8_step_ 75 = .ok (.iload_n 1, 1) := by decide +kernel
theorem dX8_step__76 : decode cX8_step_ 76 = .ok (.iaload, 1) := by decide +kernel
theorem dX8_step__77 : decode cX8_step_ 77 = .ok (.i2l, 1) := by decide +kernel
theorem dX8_step__78 : decode cX8_step_ 78 = .ok (.lreturn, 1) := by decide +kernel
theorem dX8_step__79 : decode cX8_step_ 79 = .ok (.aload_n 0, 1) := by decide +kernel
theorem dX8_step__80 : decode cX8_step_ 80 = .ok (.getfield 74, 3) := by decide +kernel
theorem dX8_step__83 : decode cX8_step_ 83 = .ok (.iload_n 1, 1) := by decide +kernel
theorem dX8_step__84 : decode cX8_step_ 84 = .ok (.iaload, 1) := by decide +kernel
theorem dX8_step__85 : decode cX8_step_ 85 = .ok (.i2l, 1) := by decide +kernel
theorem dX8_step__86 : decode cX8_step_ 86 = .ok (.lreturn, 1) := by decide +kernel
theorem dX8_step__87 : decode cX8_step_ 87 = .ok (.ldc2_w 124, 3) := by decide +kernel
theorem dX8_step__90 : decode cX8_step_ 90 = .ok (.lreturn, 1) := by decide +kernel
theorem dX8_done_0 : decode cX8_done 0 = .ok (.bipush (-2), 2) := by decide +kernel
theorem dX8_done_2 : decode cX8_done 2 = .ok (.istore 5, 2) := by decide +kernel
theorem dX8_done_4 : decode cX8_done 4 = .ok (.iconst 0, 1) := by decide +kernel
theorem dX8_done_5 : decode cX8_done 5 = .ok (.istore 6, 2) := by decide +kernel
theorem dX8_done_7 : decode cX8_done 7 = .ok (.iload 6, 2) := by decide +kernel
theorem dX8_done_9 : decode cX8_done 9 = .ok (.iload_n 1, 1) := by decide +kernel
theorem dX8_done_10 : decode cX8_done 10 = .ok (.if_icmp .ge 57, 3) := by decide +kernel
theorem dX8_done_13 : decode cX8_done 13 = .ok (.aload_n 0, 1) := by decide +kernel
theorem dX8_done_14 : decode cX8_done 14 = .ok (.getfield 68, 3) := by decide +kernel
theorem dX8_done_17 : decode cX8_done 17 = .ok (.iload 6, 2) := by decide +kernel
theorem dX8_done_19 : decode cX8_done 19 = .ok (.laload, 1) := by decide +kernel
theorem dX8_done_20 : decode cX8_done 20 = .ok (.lload_n 2, 1) := by decide +kernel
theorem dX8_done_21 : decode cX8_done 21 = .ok (.lcmp, 1) := by decide +kernel
theorem dX8_done_22 : decode cX8_done 22 = .ok (.ifCond .ne 39, 3) := by decide +kernel
theorem dX8_done_25 : decode cX8_done 25 = .ok (.aload_n 0, 1) := by decide +kernel
theorem dX8_done_26 : decode cX8_done 26 = .ok (.getfield 71, 3) := by decide +kernel
theorem dX8_done_29 : decode cX8_done 29 = .ok (.iload 6, 2) := by decide +kernel
theorem dX8_done_31 : decode cX8_done 31 = .ok (.iaload, 1) := by decide +kernel
theorem dX8_done_32 : decode cX8_done 32 = .ok (.iload 4, 2) := by decide +kernel
theorem dX8_done_34 : decode cX8_done 34 = .ok (.if_icmp .ne 27, 3) := by decide +kernel
theorem dX8_done_37 : decode cX8_done 37 = .ok (.aload_n 0, 1) := by decide +kernel
theorem dX8_done_38 : decode cX8_done 38 = .ok (.getfield 65, 3) := by decide +kernel
theorem dX8_done_41 : decode cX8_done 41 = .ok (.iload 6, 2) := by decide +kernel
theorem dX8_done_43 : decode cX8_done 43 = .ok (.iaload, 1) := by decide +kernel
theorem dX8_done_44 : decode cX8_done 44 = .ok (.iconst 1, 1) := by decide +kernel
theorem dX8_done_45 : decode cX8_done 45 = .ok (.if_icmp .ne 13, 3) := by decide +kernel
theorem dX8_done_48 : decode cX8_done 48 = .ok (.aload_n 0, 1) := by decide +kernel
theorem dX8_done_49 : decode cX8_done 49 = .ok (.getfield 74, 3) := by decide +kernel
theorem dX8_done_52 : decode cX8_done 52 = .ok (.iload 6, 2) := by decide +kernel
theorem dX8_done_54 : decode cX8_done 54 = .ok (.iaload, 1) := by decide +kernel
theorem dX8_done_55 : decode cX8_done 55 = .ok (.goto 4, 3) := by decide +kernel
theorem dX8_done_58 : decode cX8_done 58 = .ok (.iconst (-1), 1) := by decide +kernel
theorem dX8_done_59 : decode cX8_done 59 = .ok (.istore 5, 2) := by decide +kernel
theorem dX8_done_61 : decode cX8_done 61 = .ok (.iinc 6 1, 3) := by decide +kernel
theorem dX8_done_64 : decode cX8_done 64 = .ok (.goto (-57), 3) := by decide +kernel
theorem dX8_done_67 : decode cX8_done 67 = .ok (.iload 5, 2) := by decide +kernel
theorem dX8_done_69 : decode cX8_done 69 = .ok (.ireturn, 1) := by decide +kernel
set_option maxRecDepth 20000 in
theorem ggX8_led_X8_lies : GoodIn wsX8_led wsX8_lies := goodIn_r _ [14] (by decide +kernel) (by decide +kernel)
set_option maxRecDepth 20000 in
theorem gX8_led_X8_lies : GoodIn wsX8_led (va_wsS RX8 92 yX8_lies wsX8_lies) := goodIn_app (goodIn_of _ (by decide +kernel)) ggX8_led_X8_lies
set_option maxRecDepth 20000 in
theorem ggX8_led_X8_number : GoodIn wsX8_led wsX8_number := goodIn_r _ [17, 18] (by decide +kernel) (by decide +kernel)
set_option maxRecDepth 20000 in
theorem gX8_led_X8_number : GoodIn wsX8_led (va_wsS RX8 98 yX8_number wsX8_number) := goodIn_app (goodIn_of _ (by decide +kernel)) ggX8_led_X8_number
set_option maxRecDepth 20000 in
theorem ggX8_led_X8_done : GoodIn wsX8_led wsX8_done := goodIn_r _ [22, 8, 9, 7, 10, 29, 30, 31, 32, 33, 34, 35, 36, 37, 38, 39, 40, 41, 42, 43, 44, 45, 46, 47, 48, 49, 50, 51, 52, 53, 54, 55, 56, 57, 58, 59, 60, 61, 62] (by decide +kernel) (by decide +kernel)
set_option maxRecDepth 20000 in
theorem gX8_led_X8_done : GoodIn wsX8_led (wsV RX8 212 RX8 yX8_done wsX8_done) := goodIn_app (goodIn_of _ (by decide +kernel)) ggX8_led_X8_done
set_option maxRecDepth 20000 in
theorem ggX8_led_X8_begins : GoodIn wsX8_led wsX8_begins := goodIn_r _ [25, 26, 27, 13, 28] (by decide +kernel) (by decide +kernel)
set_option maxRecDepth 20000 in
theorem gX8_led_X8_begins : GoodIn wsX8_led (va_wsS RX8 126 yX8_begins wsX8_begins) := goodIn_app (goodIn_of _ (by decide +kernel)) ggX8_led_X8_begins
theorem dX8_led_0 : decode cX8_led 0 = .ok (.aload_n 0, 1) := by decide +kernel
theorem dX8_led_1 : decode cX8_led 1 = .ok (.getfield 202, 3) := by decide +kernel
theorem dX8_led_4 : decode cX8_led 4 = .ok (.ifCond .eq 15, 3) := by decide +kernel
theorem dX8_led_7 : decode cX8_led 7 = .ok (.iload_n 1, 1) := by decide +kernel
theorem dX8_led_8 : decode cX8_led 8 = .ok (.iconst 0, 1) := by decide +kernel
theorem dX8_led_9 : decode cX8_led 9 = .ok (.aload_n 0, 1) := by decide +kernel
theorem dX8_led_10 : decode cX8_led 10 = .ok (.getfield 199, 3) := by decide +kernel
theorem dX8_led_13 : decode cX8_led 13 = .ok (.invokestatic 92, 3) := by decide +kernel
theorem dX8_led_16 : decode cX8_led 16 = .ok (.ifCond .ne 5, 3) := by decide +kernel
theorem dX8_led_19 : decode cX8_led 19 = .ok (.iconst (-1), 1) := by decide +kernel
theorem dX8_led_20 : decode cX8_led 20 = .ok (.ireturn, 1) := by decide +kernel
theorem dX8_led_21 : decode cX8_led 21 = .ok (.iload_n 2, 1) := by decide +kernel
theorem dX8_led_22 : decode cX8_led 22 = .ok (.invokestatic 98, 3) := by decide +kernel
theorem dX8_led_25 : decode cX8_led 25 = .ok (.lstore_n 3, 1) := by decide +kernel
theorem dX8_led_26 : decode cX8_led 26 = .ok (.iconst (-1), 1) := by decide +kernel
theorem dX8_led_27 : decode cX8_led 27 = .ok (.istore 5, 2) := by decide +kernel
theorem dX8_led_29 : decode cX8_led 29 = .ok (.bipush 16, 2) := by decide +kernel
theorem dX8_led_31 : decode cX8_led 31 = .ok (.istore 6, 2) := by decide +kernel
theorem dX8_led_33 : decode cX8_led 33 = .ok (.iconst 0, 1) := by decide +kernel
theorem dX8_led_34 : decode cX8_led 34 = .ok (.istore 7, 2) := by decide +kernel
theorem dX8_led_36 : decode cX8_led 36 = .ok (.iload 7, 2) := by decide +kernel
theorem dX8_led_38 : decode cX8_led 38 = .ok (.aload_n 0, 1) := by decide +kernel
theorem dX8_led_39 : decode cX8_led 39 = .ok (.getfield 209, 3) := by decide +kernel
theorem dX8_led_42 : decode cX8_led 42 = .ok (.if_icmp .ge 102, 3) := by decide +kernel
theorem dX8_led_45 : decode cX8_led 45 = .ok (.aload_n 0, 1) := by decide +kernel
theorem dX8_led_46 : decode cX8_led 46 = .ok (.iload_n 1, 1) := by decide +kernel
theorem dX8_led_47 : decode cX8_led 47 = .ok (.aload_n 0, 1) := by decide +kernel
theorem dX8_led_48 : decode cX8_led 48 = .ok (.getfield 77, 3) := by decide +kernel
theorem dX8_led_51 : decode cX8_led 51 = .ok (.iload 7, 2) := by decide +kernel
theorem dX8_led_53 : decode cX8_led 53 = .ok (.laload, 1) := by decide +kernel
theorem dX8_led_54 : decode cX8_led 54 = .ok (.aload_n 0, 1) := by decide +kernel
theorem dX8_led_55 : decode cX8_led 55 = .ok (.getfield 80, 3) := by decide +kernel
theorem dX8_led_58 : decode cX8_led 58 = .ok (.iload 7, 2) := by decide +kernel
theorem dX8_led_60 : decode cX8_led 60 = .ok (.iaload, 1) := by decide +kernel
theorem dX8_led_61 : decode cX8_led 61 = .ok (.invokevirtual 212, 3) := by decide +kernel
theorem dX8_led_64 : decode cX8_led 64 = .ok (.istore 8, 2) := by decide +kernel
theorem dX8_led_66 : decode cX8_led 66 = .ok (.iload 8, 2) := by decide +kernel
theorem dX8_led_68 : decode cX8_led 68 = .ok (.iconst (-1), 1) := by decide +kernel
theorem dX8_led_69 : decode cX8_led 69 = .ok (.if_icmp .eq 69, 3) := by decide +kernel
theorem dX8_led_72 : decode cX8_led 72 = .ok (.lload_n 3, 1) := by decide +kernel
theorem dX8_led_73 : decode cX8_led 73 = .ok (.aload_n 0, 1) := by decide +kernel
theorem dX8_led_74 : decode cX8_led 74 = .ok (.getfield 77, 3) := by decide +kernel
theorem dX8_led_77 : decode cX8_led 77 = .ok (.iload 7, 2) := by decide +kernel
theorem dX8_led_79 : decode cX8_led 79 = .ok (.laload, 1) := by decide +kernel
theorem dX8_led_80 : decode cX8_led 80 = .ok (.aload_n 0, 1) := by decide +kernel
theorem dX8_led_81 : decode cX8_led 81 = .ok (.getfield 80, 3) := by decide +kernel
theorem dX8_led_84 : decode cX8_led 84 = .ok (.iload 7, 2) := by decide +kernel
theorem dX8_led_86 : decode cX8_led 86 = .ok (.iaload, 1) := by decide +kernel
theorem dX8_led_87 : decode cX8_led 87 = .ok (.invokestatic 126, 3) := by decide +kernel
theorem dX8_led_90 : decode cX8_led 90 = .ok (.ifCond .eq 48, 3) := by decide +kernel
theorem dX8_led_93 : decode cX8_led 93 = .ok (.aload_n 0, 1) := by decide +kernel
theorem dX8_led_94 : decode cX8_led 94 = .ok (.getfield 80, 3) := by decide +kernel
theorem dX8_led_97 : decode cX8_led 97 = .ok (.iload 7, 2) := by decide +kernel
theorem dX8_led_99 : decode cX8_led 99 = .ok (.iaload, 1) := by decide +kernel
theorem dX8_led_100 : decode cX8_led 100 = .ok (.iload 5, 2) := by decide +kernel
theorem dX8_led_102 : decode cX8_led 102 = .ok (.if_icmp .gt 6, 3) := by decide +kernel
theorem dX8_led_105 : decode cX8_led 105 = .ok (.goto 33, 3) := by decide +kernel
theorem dX8_led_108 : decode cX8_led 108 = .ok (.aload_n 0, 1) := by decide +kernel
theorem dX8_led_109 : decode cX8_led 109 = .ok (.getfield 80, 3) := by decide +kernel
theorem dX8_led_112 : decode cX8_led 112 = .ok (.iload 7, 2) := by decide +kernel
theorem dX8_led_114 : decode cX8_led 114 = .ok (.iaload, 1) := by decide +kernel
theorem dX8_led_115 : decode cX8_led 115 = .ok (.istore 5, 2) := by decide +kernel
theorem dX8_led_117 : decode cX8_led 117 = .ok (.iload 8, 2) := by decide +kernel
theorem dX8_led_119 : decode cX8_led 119 = .ok (.bipush (-2), 2) := by decide +kernel
theorem dX8_led_121 : decode cX8_led 121 = .ok (.if_icmp .ne 13, 3) := by decide +kernel
theorem dX8_led_124 : decode cX8_led 124 = .ok (.aload_n 0, 1) := by decide +kernel
theorem dX8_led_125 : decode cX8_led 125 = .ok (.getfield 83, 3) := by decide +kernel
theorem dX8_led_128 : decode cX8_led 128 = .ok (.iload 7, 2) := by decide +kernel
theorem dX8_led_130 : decode cX8_led 130 = .ok (.iaload, 1) := by decide +kernel
theorem dX8_led_131 : decode cX8_led 131 = .ok (.goto 5, 3) := by decide +kernel
theorem dX8_led_134 : decode cX8_led 134 = .ok (.iload 8, 2) := by decide +kernel
theorem dX8_led_136 : decode cX8_led 136 = .ok (.istore 6, 2) := by decide +kernel
theorem dX8_led_138 : decode cX8_led 138 = .ok (.iinc 7 1, 3) := by decide +kernel
theorem dX8_led_141 : decode cX8_led 141 = .ok (.goto (-105), 3) := by decide +kernel
theorem dX8_led_144 : decode cX8_led 144 = .ok (.iconst 0, 1) := by decide +kernel
theorem dX8_led_145 : decode cX8_led 145 = .ok (.istore 7, 2) := by decide +kernel
theorem dX8_led_147 : decode cX8_led 147 = .ok (.iload 7, 2) := by decide +kernel
theorem dX8_led_149 : decode cX8_led 149 = .ok (.iload_n 1, 1) := by decide +kernel
theorem dX8_led_150 : decode cX8_led 150 = .ok (.if_icmp .ge 73, 3) := by decide +kernel
theorem dX8_led_153 : decode cX8_led 153 = .ok (.aload_n 0, 1) := by decide +kernel
theorem dX8_led_154 : decode cX8_led 154 = .ok (.getfield 65, 3) := by decide +kernel
theorem dX8_led_157 : decode cX8_led 157 = .ok (.iload 7, 2) := by decide +kernel
theorem dX8_led_159 : decode cX8_led 159 = .ok (.iaload, 1) := by decide +kernel
theorem dX8_led_160 : decode cX8_led 160 = .ok (.ifCond .eq 57, 3) := by decide +kernel
theorem dX8_led_163 : decode cX8_led 163 = .ok (.lload_n 3, 1) := by decide +kernel
theorem dX8_led_164 : decode cX8_led 164 = .ok (.aload_n 0, 1) := by decide +kernel
theorem dX8_led_165 : decode cX8_led 165 = .ok (.getfield 68, 3) := by decide +kernel
theorem dX8_led_168 : decode cX8_led 168 = .ok (.iload 7, 2) := by decide +kernel
theorem dX8_led_170 : decode cX8_led 170 = .ok (.laload, 1) := by decide +kernel
theorem dX8_led_171 : decode cX8_led 171 = .ok (.aload_n 0, 1) := by decide +kernel
theorem dX8_led_172 : decode cX8_led 172 = .ok (.getfield 71, 3) := by decide +kernel
theorem dX8_led_175 : decode cX8_led 175 = .ok (.iload 7, 2) := by decide +kernel
theorem dX8_led_177 : decode cX8_led 177 = .ok (.iaload, 1) := by decide +kernel
theorem dX8_led_178 : decode cX8_led 178 = .ok (.invokestatic 126, 3) := by decide +kernel
theorem dX8_led_181 : decode cX8_led 181 = .ok (.ifCond .eq 36, 3) := by decide +kernel
theorem dX8_led_184 : decode cX8_led 184 = .ok (.aload_n 0, 1) := by decide +kernel
theorem dX8_led_185 : decode cX8_led 185 = .ok (.getfield 71, 3) := by decide +kernel
theorem dX8_led_188 : decode cX8_led 188 = .ok (.iload 7, 2) := by decide +kernel
theorem dX8_led_190 : decode cX8_led 190 = .ok (.iaload, 1) := by decide +kernel
theorem dX8_led_191 : decode cX8_led 191 = .ok (.iload 5, 2) := by decide +kernel
theorem dX8_led_193 : decode cX8_led 193 = .ok (.if_icmp .gt 6, 3) := by decide +kernel
theorem dX8_led_196 : decode cX8_led 196 = .ok (.goto 21, 3) := by decide +kernel
theorem dX8_led_199 : decode cX8_led 199 = .ok (.aload_n 0, 1) := by decide +kernel
theorem dX8_led_200 : decode cX8_led 200 = .ok (.getfield 71, 3) := by decide +kernel
theorem dX8_led_203 : decode cX8_led 203 = .ok (.iload 7, 2) := by decide +kernel
theorem dX8_led_205 : decode cX8_led 205 = .ok (.iaload, 1) := by decide +kernel
theorem dX8_led_206 : decode cX8_led 206 = .ok (.istore 5, 2) := by decide +kernel
theorem dX8_led_208 : decode cX8_led 208 = .ok (.aload_n 0, 1) := by decide +kernel
theorem dX8_led_209 : decode cX8_led 209 = .ok (.getfield 74, 3) := by decide +kernel
theorem dX8_led_212 : decode cX8_led 212 = .ok (.iload 7, 2) := by decide +kernel
theorem dX8_led_214 : decode cX8_led 214 = .ok (.iaload, 1) := by decide +kernel
theorem dX8_led_215 : decode cX8_led 215 = .ok (.istore 6, 2) := by decide +kernel
theorem dX8_led_217 : decode cX8_led 217 = .ok (.iinc 7 1, 3) := by decide +kernel
theorem dX8_led_220 : decode cX8_led 220 = .ok (.goto (-73), 3) := by decide +kernel
theorem dX8_led_223 : decode cX8_led 223 = .ok (.iload 6, 2) := by decide +kernel
theorem dX8_led_225 : decode cX8_led 225 = .ok (.ireturn, 1) := by decide +kernel
theorem dX8_counts_0 : decode cX8_counts 0 = .ok (.iconst 0, 1) := by decide +kernel
theorem dX8_counts_1 : decode cX8_counts 1 = .ok (.istore 4, 2) := by decide +kernel
theorem dX8_counts_3 : decode cX8_counts 3 = .ok (.iload 4, 2) := by decide +kernel
theorem dX8_counts_5 : decode cX8_counts 5 = .ok (.aload_n 0, 1) := by decide +kernel
theorem dX8_counts_6 : decode cX8_counts 6 = .ok (.getfield 215, 3) := by decide +kernel
theorem dX8_counts_9 : decode cX8_counts 9 = .ok (.if_icmp .ge 33, 3) := by decide +kernel
theorem dX8_counts_12 : decode cX8_counts 12 = .ok (.aload_n 0, 1) := by decide +kernel
theorem dX8_counts_13 : decode cX8_counts 13 = .ok (.getfield 86, 3) := by decide +kernel
theorem dX8_counts_16 : decode cX8_counts 16 = .ok (.iload 4, 2) := by decide +kernel
theorem dX8_counts_18 : decode cX8_counts 18 = .ok (.laload, 1) := by decide +kernel
theorem dX8_counts_19 : decode cX8_counts 19 = .ok (.lload_n 1, 1) := by decide +kernel
theorem dX8_counts_20 : decode cX8_counts 20 = .ok (.lcmp, 1) := by decide +kernel
theorem dX8_counts_21 : decode cX8_counts 21 = .ok (.ifCond .ne 15, 3) := by decide +kernel
theorem dX8_counts_24 : decode cX8_counts 24 = .ok (.aload_n 0, 1) := by decide +kernel
theorem dX8_counts_25 : decode cX8_counts 25 = .ok (.getfield 89, 3) := by decide +kernel
theorem dX8_counts_28 : decode cX8_counts 28 = .ok (.iload 4, 2) := by decide +kernel
theorem dX8_counts_30 : decode cX8_counts 30 = .ok (.iaload, 1) := by decide +kernel
theorem dX8_counts_31 : decode cX8_counts 31 = .ok (.iload_n 3, 1) := by decide +kernel
theorem dX8_counts_32 : decode cX8_counts 32 = .ok (.if_icmp .ne 4, 3) := by decide +kernel
theorem dX8_counts_35 : decode cX8_counts 35 = .ok (.return_, 1) := by decide +kernel
theorem dX8_counts_36 : decode cX8_counts 36 = .ok (.iinc 4 1, 3) := by decide +kernel
theorem dX8_counts_39 : decode cX8_counts 39 = .ok (.goto (-36), 3) := by decide +kernel
theorem dX8_counts_42 : decode cX8_counts 42 = .ok (.aload_n 0, 1) := by decide +kernel
theorem dX8_counts_43 : decode cX8_counts 43 = .ok (.getfield 86, 3) := by decide +kernel
theorem dX8_counts_46 : decode cX8_counts 46 = .ok (.aload_n 0, 1) := by decide +kernel
theorem dX8_counts_47 : decode cX8_counts 47 = .ok (.getfield 215, 3) := by decide +kernel
theorem dX8_counts_50 : decode cX8_counts 50 = .ok (.lload_n 1, 1) := by decide +kernel
theorem dX8_counts_51 : decode cX8_counts 51 = .ok (.lastore, 1) := by decide +kernel
theorem dX8_counts_52 : decode cX8_counts 52 = .ok (.aload_n 0, 1) := by decide +kernel
theorem dX8_counts_53 : decode cX8_counts 53 = .ok (.getfield 89, 3) := by decide +kernel
theorem dX8_counts_56 : decode cX8_counts 56 = .ok (.aload_n 0, 1) := by decide +kernel
theorem dX8_counts_57 : decode cX8_counts 57 = .ok (.getfield 215, 3) := by decide +kernel
theorem dX8_counts_60 : decode cX8_counts 60 = .ok (.iload_n 3, 1) := by decide +kernel
theorem dX8_counts_61 : decode cX8_counts 61 = .ok (.iastore, 1) := by decide +kernel
theorem dX8_counts_62 : decode cX8_counts 62 = .ok (.aload_n 0, 1) := by decide +kernel
theorem dX8_counts_63 : decode cX8_counts 63 = .ok (.dup, 1) := by decide +kernel
theorem dX8_counts_64 : decode cX8_counts 64 = .ok (.getfield 215, 3) := by decide +kernel
theorem dX8_counts_67 : decode cX8_counts 67 = .ok (.iconst 1, 1) := by decide +kernel
theorem dX8_counts_68 : decode cX8_counts 68 = .ok (.iadd, 1) := by decide +kernel
theorem dX8_counts_69 : decode cX8_counts 69 = .ok (.putfield 215, 3) := by decide +kernel
theorem dX8_counts_72 : decode cX8_counts 72 = .ok (.return_, 1) := by decide +kernel
set_option maxRecDepth 20000 in
theorem ggX8_pressed_X8_counts : GoodIn wsX8_pressed wsX8_counts := goodIn_r _ [8, 9, 10, 11, 18, 19, 20, 21, 22, 23, 24, 25, 26, 27, 28, 29, 30, 31, 32, 33, 34, 35, 36, 37, 38, 39, 40, 41, 42, 43, 44, 45, 46, 47, 48, 49, 50, 51] (by decide +kernel) (by decide +kernel)
set_option maxRecDepth 20000 in
theorem gX8_pressed_X8_counts : GoodIn wsX8_pressed (wsV RX8 218 RX8 yX8_counts wsX8_counts) := goodIn_app (goodIn_of _ (by decide +kernel)) ggX8_pressed_X8_counts
set_option maxRecDepth 20000 in
theorem ggX8_pressed_X8_begins : GoodIn wsX8_pressed wsX8_begins := goodIn_r _ [14, 15, 16, 7, 17] (by decide +kernel) (by decide +kernel)
set_option maxRecDepth 20000 in
theorem gX8_pressed_X8_begins : GoodIn wsX8_pressed (va_wsS RX8 126 yX8_begins wsX8_begins) := goodIn_app (goodIn_of _ (by decide +kernel)) ggX8_pressed_X8_begins
set_option maxRecDepth 20000 in
theorem ggX8_pressed_X8_size : GoodIn wsX8_pressed wsX8_size := goodIn_r _ [17] (by decide +kernel) (by decide +kernel)
set_option maxRecDepth 20000 in
theorem gX8_pressed_X8_size : GoodIn wsX8_pressed (va_wsS RX8 102 yX8_size wsX8_size) := goodIn_app (goodIn_of _ (by decide +kernel)) ggX8_pressed_X8_size
theorem dX8_pressed_0 : decode cX8_pressed 0 = .ok (.aload_n 0, 1) := by decide +kernel
theorem dX8_pressed_1 : decode cX8_pressed 1 = .ok (.lconst 0, 1) := by decide +kernel
theorem dX8_pressed_2 : decode cX8_pressed 2 = .ok (.iconst 0, 1) := by decide +kernel
theorem dX8_pressed_3 : decode cX8_pressed 3 = .ok (.invokevirtual 218, 3) := by decide +kernel
theorem dX8_pressed_6 : decode cX8_pressed 6 = .ok (.iconst 0, 1) := by decide +kernel
theorem dX8_pressed_7 : decode cX8_pressed 7 = .ok (.istore_n 2, 1) := by decide +kernel
theorem dX8_pressed_8 : decode cX8_pressed 8 = .ok (.iload_n 2, 1) := by decide +kernel
theorem dX8_pressed_9 : decode cX8_pressed 9 = .ok (.aload_n 0, 1) := by decide +kernel
theorem dX8_pressed_10 : decode cX8_pressed 10 = .ok (.getfield 7, 3) := by decide +kernel
theorem dX8_pressed_13 : decode cX8_pressed 13 = .ok (.iload_n 1, 1) := by decide +kernel
theorem dX8_pressed_14 : decode cX8_pressed 14 = .ok (.iaload, 1) := by decide +kernel
theorem dX8_pressed_15 : decode cX8_pressed 15 = .ok (.if_icmp .ge 158, 3) := by decide +kernel
theorem dX8_pressed_18 : decode cX8_pressed 18 = .ok (.bipush 64, 2) := by decide +kernel
theorem dX8_pressed_20 : decode cX8_pressed 20 = .ok (.iload_n 1, 1) := by decide +kernel
theorem dX8_pressed_21 : decode cX8_pressed 21 = .ok (.imul, 1) := by decide +kernel
theorem dX8_pressed_22 : decode cX8_pressed 22 = .ok (.iload_n 2, 1) := by decide +kernel
theorem dX8_pressed_23 : decode cX8_pressed 23 = .ok (.iadd, 1) := by decide +kernel
theorem dX8_pressed_24 : decode cX8_pressed 24 = .ok (.istore_n 3, 1) := by decide +kernel
theorem dX8_pressed_25 : decode cX8_pressed 25 = .ok (.aload_n 0, 1) := by decide +kernel
theorem dX8_pressed_26 : decode cX8_pressed 26 = .ok (.aload_n 0, 1) := by decide +kernel
theorem dX8_pressed_27 : decode cX8_pressed 27 = .ok (.getfield 13, 3) := by decide +kernel
theorem dX8_pressed_30 : decode cX8_pressed 30 = .ok (.iload_n 3, 1) := by decide +kernel
theorem dX8_pressed_31 : decode cX8_pressed 31 = .ok (.laload, 1) := by decide +kernel
theorem dX8_pressed_32 : decode cX8_pressed 32 = .ok (.aload_n 0, 1) := by decide +kernel
theorem dX8_pressed_33 : decode cX8_pressed 33 = .ok (.getfield 17, 3) := by decide +kernel
theorem dX8_pressed_36 : decode cX8_pressed 36 = .ok (.iload_n 3, 1) := by decide +kernel
theorem dX8_pressed_37 : decode cX8_pressed 37 = .ok (.iaload, 1) := by decide +kernel
theorem dX8_pressed_38 : decode cX8_pressed 38 = .ok (.invokevirtual 218, 3) := by decide +kernel
theorem dX8_pressed_41 : decode cX8_pressed 41 = .ok (.iconst 0, 1) := by decide +kernel
theorem dX8_pressed_42 : decode cX8_pressed 42 = .ok (.istore 4, 2) := by decide +kernel
theorem dX8_pressed_44 : decode cX8_pressed 44 = .ok (.iload 4, 2) := by decide +kernel
theorem dX8_pressed_46 : decode cX8_pressed 46 = .ok (.iload_n 2, 1) := by decide +kernel
theorem dX8_pressed_47 : decode cX8_pressed 47 = .ok (.if_icmp .ge 120, 3) := by decide +kernel
theorem dX8_pressed_50 : decode cX8_pressed 50 = .ok (.bipush 64, 2) := by decide +kernel
theorem dX8_pressed_52 : decode cX8_pressed 52 = .ok (.iload_n 1, 1) := by decide +kernel
theorem dX8_pressed_53 : decode cX8_pressed 53 = .ok (.imul, 1) := by decide +kernel
theorem dX8_pressed_54 : decode cX8_pressed 54 = .ok (.iload 4, 2) := by decide +kernel
theorem dX8_pressed_56 : decode cX8_pressed 56 = .ok (.iadd, 1) := by decide +kernel
theorem dX8_pressed_57 : decode cX8_pressed 57 = .ok (.istore 5, 2) := by decide +kernel
theorem dX8_pressed_59 : decode cX8_pressed 59 = .ok (.iconst 0, 1) := by decide +kernel
theorem dX8_pressed_60 : decode cX8_pressed 60 = .ok (.istore 6, 2) := by decide +kernel
theorem dX8_pressed_62 : decode cX8_pressed 62 = .ok (.iload 6, 2) := by decide +kernel
theorem dX8_pressed_64 : decode cX8_pressed 64 = .ok (.aload_n 0, 1) := by decide +kernel
theorem dX8_pressed_65 : decode cX8_pressed 65 = .ok (.getfield 17, 3) := by decide +kernel
theorem dX8_pressed_68 : decode cX8_pressed 68 = .ok (.iload_n 3, 1) := by decide +kernel
theorem dX8_pressed_69 : decode cX8_pressed 69 = .ok (.iaload, 1) := by decide +kernel
theorem dX8_pressed_70 : decode cX8_pressed 70 = .ok (.if_icmp .ge 44, 3) := by decide +kernel
theorem dX8_pressed_73 : decode cX8_pressed 73 = .ok (.iload 6, 2) := by decide +kernel
theorem dX8_pressed_75 : decode cX8_pressed 75 = .ok (.aload_n 0, 1) := by decide +kernel
theorem dX8_pressed_76 : decode cX8_pressed 76 = .ok (.getfield 17, 3) := by decide +kernel
theorem dX8_pressed_79 : decode cX8_pressed 79 = .ok (.iload 5, 2) := by decide +kernel
theorem dX8_pressed_81 : decode cX8_pressed 81 = .ok (.iaload, 1) := by decide +kernel
theorem dX8_pressed_82 : decode cX8_pressed 82 = .ok (.if_icmp .ge 32, 3) := by decide +kernel
theorem dX8_pressed_85 : decode cX8_pressed 85 = .ok (.aload_n 0, 1) := by decide +kernel
theorem dX8_pressed_86 : decode cX8_pressed 86 = .ok (.getfield 13, 3) := by decide +kernel
theorem dX8_pressed_89 : decode cX8_pressed 89 = .ok (.iload_n 3, 1) := by decide +kernel
theorem dX8_pressed_90 : decode cX8_pressed 90 = .ok (.laload, 1) := by decide +kernel
theorem dX8_pressed_91 : decode cX8_pressed 91 = .ok (.aload_n 0, 1) := by decide +kernel
theorem dX8_pressed_92 : decode cX8_pressed 92 = .ok (.getfield 13, 3) := by decide +kernel
theorem dX8_pressed_95 : decode cX8_pressed 95 = .ok (.iload 5, 2) := by decide +kernel
theorem dX8_pressed_97 : decode cX8_pressed 97 = .ok (.laload, 1) := by decide +kernel
theorem dX8_pressed_98 : decode cX8_pressed 98 = .ok (.iload 6, 2) := by decide +kernel
theorem dX8_pressed_100 : decode cX8_pressed 100 = .ok (.iconst 1, 1) := by decide +kernel
theorem dX8_pressed_101 : decode cX8_pressed 101 = .ok (.iadd, 1) := by decide +kernel
theorem dX8_pressed_102 : decode cX8_pressed 102 = .ok (.invokestatic 126, 3) := by decide +kernel
theorem dX8_pressed_105 : decode cX8_pressed 105 = .ok (.ifCond .eq 9, 3) := by decide +kernel
theorem dX8_pressed_108 : decode cX8_pressed 108 = .ok (.iinc 6 1, 3) := by decide +kernel
theorem dX8_pressed_111 : decode cX8_pressed 111 = .ok (.goto (-49), 3) := by decide +kernel
theorem dX8_pressed_114 : decode cX8_pressed 114 = .ok (.iload 6, 2) := by decide +kernel
theorem dX8_pressed_116 : decode cX8_pressed 116 = .ok (.aload_n 0, 1) := by decide +kernel
theorem dX8_pressed_117 : decode cX8_pressed 117 = .ok (.getfield 17, 3) := by decide +kernel
theorem dX8_pressed_120 : decode cX8_pressed 120 = .ok (.iload_n 3, 1) := by decide +kernel
theorem dX8_pressed_121 : decode cX8_pressed 121 = .ok (.iaload, 1) := by decide +kernel
theorem dX8_pressed_122 : decode cX8_pressed 122 = .ok (.if_icmp .ge 39, 3) := by decide +kernel
theorem dX8_pressed_125 : decode cX8_pressed 125 = .ok (.iload 6, 2) := by decide +kernel
theorem dX8_pressed_127 : decode cX8_pressed 127 = .ok (.aload_n 0, 1) := by decide +kernel
theorem dX8_pressed_128 : decode cX8_pressed 128 = .ok (.getfield 17, 3) := by decide +kernel
theorem dX8_pressed_131 : decode cX8_pressed 131 = .ok (.iload 5, 2) := by decide +kernel
theorem dX8_pressed_133 : decode cX8_pressed 133 = .ok (.iaload, 1) := by decide +kernel
theorem dX8_pressed_134 : decode cX8_pressed 134 = .ok (.if_icmp .ge 27, 3) := by decide +kernel
theorem dX8_pressed_137 : decode cX8_pressed 137 = .ok (.aload_n 0, 1) := by decide +kernel
theorem dX8_pressed_138 : decode cX8_pressed 138 = .ok (.aload_n 0, 1) := by decide +kernel
theorem dX8_pressed_139 : decode cX8_pressed 139 = .ok (.getfield 13, 3) := by decide +kernel
theorem dX8_pressed_142 : decode cX8_pressed 142 = .ok (.iload_n 3, 1) := by decide +kernel
theorem dX8_pressed_143 : decode cX8_pressed 143 = .ok (.laload, 1) := by decide +kernel
theorem dX8_pressed_144 : decode cX8_pressed 144 = .ok (.iload 6, 2) := by decide +kernel
theorem dX8_pressed_146 : decode cX8_pressed 146 = .ok (.invokestatic 102, 3) := by decide +kernel
theorem dX8_pressed_149 : decode cX8_pressed 149 = .ok (.ldiv, 1) := by decide +kernel
theorem dX8_pressed_150 : decode cX8_pressed 150 = .ok (.iload 6, 2) := by decide +kernel
theorem dX8_pressed_152 : decode cX8_pressed 152 = .ok (.invokestatic 102, 3) := by decide +kernel
theorem dX8_pressed_155 : decode cX8_pressed 155 = .ok (.lmul, 1) := by decide +kernel
theorem dX8_pressed_156 : decode cX8_pressed 156 = .ok (.iload 6, 2) := by decide +kernel
theorem dX8_pressed_158 : decode cX8_pressed 158 = .ok (.invokevirtual 218, 3) := by decide +kernel
theorem dX8_pressed_161 : decode cX8_pressed 161 = .ok (.iinc 4 1, 3) := by decide +kernel
theorem dX8_pressed_164 : decode cX8_pressed 164 = .ok (.goto (-120), 3) := by decide +kernel
theorem dX8_pressed_167 : decode cX8_pressed 167 = .ok (.iinc 2 1, 3) := by decide +kernel
theorem dX8_pressed_170 : decode cX8_pressed 170 = .ok (.goto (-162), 3) := by decide +kernel
theorem dX8_pressed_173 : decode cX8_pressed 173 = .ok (.return_, 1) := by decide +kernel
set_option maxRecDepth 20000 in
theorem ggX8_strides_X8_counts : GoodIn wsX8_strides wsX8_counts := goodIn_r _ [8, 9, 10, 11, 15, 16, 17, 18, 19, 20, 21, 22, 23, 24, 25, 26, 27, 28, 29, 30, 31, 32, 33, 34, 35, 36, 37, 38, 39, 40, 41, 42, 43, 44, 45, 46, 47, 48] (by decide +kernel) (by decide +kernel)
set_option maxRecDepth 20000 in
theorem gX8_strides_X8_counts : GoodIn wsX8_strides (wsV RX8 218 RX8 yX8_counts wsX8_counts) := goodIn_app (goodIn_of _ (by decide +kernel)) ggX8_strides_X8_counts
set_option maxRecDepth 20000 in
theorem ggX8_strides_X8_size : GoodIn wsX8_strides wsX8_size := goodIn_r _ [14] (by decide +kernel) (by decide +kernel)
set_option maxRecDepth 20000 in
theorem gX8_strides_X8_size : GoodIn wsX8_strides (va_wsS RX8 102 yX8_size wsX8_size) := goodIn_app (goodIn_of _ (by decide +kernel)) ggX8_strides_X8_size
theorem dX8_strides_0 : decode cX8_strides 0 = .ok (.aload_n 0, 1) := by decide +kernel
theorem dX8_strides_1 : decode cX8_strides 1 = .ok (.lconst 0, 1) := by decide +kernel
theorem dX8_strides_2 : decode cX8_strides 2 = .ok (.iconst 0, 1) := by decide +kernel
theorem dX8_strides_3 : decode cX8_strides 3 = .ok (.invokevirtual 218, 3) := by decide +kernel
theorem dX8_strides_6 : decode cX8_strides 6 = .ok (.iconst 0, 1) := by decide +kernel
theorem dX8_strides_7 : decode cX8_strides 7 = .ok (.istore_n 2, 1) := by decide +kernel
theorem dX8_strides_8 : decode cX8_strides 8 = .ok (.iload_n 2, 1) := by decide +kernel
theorem dX8_strides_9 : decode cX8_strides 9 = .ok (.aload_n 0, 1) := by decide +kernel
theorem dX8_strides_10 : decode cX8_strides 10 = .ok (.getfield 7, 3) := by decide +kernel
theorem dX8_strides_13 : decode cX8_strides 13 = .ok (.iload_n 1, 1) := by decide +kernel
theorem dX8_strides_14 : decode cX8_strides 14 = .ok (.iaload, 1) := by decide +kernel
theorem dX8_strides_15 : decode cX8_strides 15 = .ok (.if_icmp .ge 61, 3) := by decide +kernel
theorem dX8_strides_18 : decode cX8_strides 18 = .ok (.bipush 64, 2) := by decide +kernel
theorem dX8_strides_20 : decode cX8_strides 20 = .ok (.iload_n 1, 1) := by decide +kernel
theorem dX8_strides_21 : decode cX8_strides 21 = .ok (.imul, 1) := by decide +kernel
theorem dX8_strides_22 : decode cX8_strides 22 = .ok (.iload_n 2, 1) := by decide +kernel
theorem dX8_strides_23 : decode cX8_strides 23 = .ok (.iadd, 1) := by decide +kernel
theorem dX8_strides_24 : decode cX8_strides 24 = .ok (.istore_n 3, 1) := by decide +kernel
theorem dX8_strides_25 : decode cX8_strides 25 = .ok (.bipush 6, 2) := by decide +kernel
theorem dX8_strides_27 : decode cX8_strides 27 = .ok (.istore 4, 2) := by decide +kernel
theorem dX8_strides_29 : decode cX8_strides 29 = .ok (.iload 4, 2) := by decide +kernel
theorem dX8_strides_31 : decode cX8_strides 31 = .ok (.aload_n 0, 1) := by decide +kernel
theorem dX8_strides_32 : decode cX8_strides 32 = .ok (.getfield 17, 3) := by decide +kernel
theorem dX8_strides_35 : decode cX8_strides 35 = .ok (.iload_n 3, 1) := by decide +kernel
theorem dX8_strides_36 : decode cX8_strides 36 = .ok (.iaload, 1) := by decide +kernel
theorem dX8_strides_37 : decode cX8_strides 37 = .ok (.if_icmp .ge 33, 3) := by decide +kernel
theorem dX8_strides_40 : decode cX8_strides 40 = .ok (.aload_n 0, 1) := by decide +kernel
theorem dX8_strides_41 : decode cX8_strides 41 = .ok (.aload_n 0, 1) := by decide +kernel
theorem dX8_strides_42 : decode cX8_strides 42 = .ok (.getfield 13, 3) := by decide +kernel
theorem dX8_strides_45 : decode cX8_strides 45 = .ok (.iload_n 3, 1) := by decide +kernel
theorem dX8_strides_46 : decode cX8_strides 46 = .ok (.laload, 1) := by decide +kernel
theorem dX8_strides_47 : decode cX8_strides 47 = .ok (.iload 4, 2) := by decide +kernel
theorem dX8_strides_49 : decode cX8_strides 49 = .ok (.invokestatic 102, 3) := by decide +kernel
theorem dX8_strides_52 : decode cX8_strides 52 = .ok (.ldiv, 1) := by decide +kernel
theorem dX8_strides_53 : decode cX8_strides 53 = .ok (.iload 4, 2) := by decide +kernel
theorem dX8_strides_55 : decode cX8_strides 55 = .ok (.invokestatic 102, 3) := by decide +kernel
theorem dX8_strides_58 : decode cX8_strides 58 = .ok (.lmul, 1) := by decide +kernel
theorem dX8_strides_59 : decode cX8_strides 59 = .ok (.iload 4, 2) := by decide +kernel
theorem dX8_strides_61 : decode cX8_strides 61 = .ok (.invokevirtual 218, 3) := by decide +kernel
theorem dX8_strides_64 : decode cX8_strides 64 = .ok (.iinc 4 6, 3) := by decide +kernel
theorem dX8_strides_67 : decode cX8_strides 67 = .ok (.goto (-38), 3) := by decide +kernel
theorem dX8_strides_70 : decode cX8_strides 70 = .ok (.iinc 2 1, 3) := by decide +kernel
theorem dX8_strides_73 : decode cX8_strides 73 = .ok (.goto (-65), 3) := by decide +kernel
theorem dX8_strides_76 : decode cX8_strides 76 = .ok (.return_, 1) := by decide +kernel
set_option maxRecDepth 20000 in
theorem ggX8_steps_X8_isBook : GoodIn wsX8_steps wsX8_isBook := goodIn_r _ [7, 8, 9, 6, 10] (by decide +kernel) (by decide +kernel)
set_option maxRecDepth 20000 in
theorem gX8_steps_X8_isBook : GoodIn wsX8_steps (va_wsS RX8 109 yX8_isBook wsX8_isBook) := goodIn_app (goodIn_of _ (by decide +kernel)) ggX8_steps_X8_isBook
set_option maxRecDepth 20000 in
theorem ggX8_steps_X8_strides : GoodIn wsX8_steps wsX8_strides := goodIn_r _ [14, 15, 16, 17, 18, 19, 20, 6, 21, 1, 2, 3, 22, 23, 24, 32, 33, 34, 35, 36, 37, 38, 39, 40, 41, 42, 43, 44, 45, 46, 47, 48, 49, 50, 51, 52, 53, 54, 55, 56, 57, 58, 59, 60, 61, 62, 63, 64, 65] (by decide +kernel) (by decide +kernel)
set_option maxRecDepth 20000 in
theorem gX8_steps_X8_strides : GoodIn wsX8_steps (wsV RX8 222 RX8 yX8_strides wsX8_strides) := goodIn_app (goodIn_of _ (by decide +kernel)) ggX8_steps_X8_strides
set_option maxRecDepth 20000 in
theorem ggX8_steps_X8_number : GoodIn wsX8_steps wsX8_number := goodIn_r _ [27, 28] (by decide +kernel) (by decide +kernel)
set_option maxRecDepth 20000 in
theorem gX8_steps_X8_number : GoodIn wsX8_steps (va_wsS RX8 98 yX8_number wsX8_number) := goodIn_app (goodIn_of _ (by decide +kernel)) ggX8_steps_X8_number
set_option maxRecDepth 20000 in
theorem ggX8_steps_X8_begins : GoodIn wsX8_steps wsX8_begins := goodIn_r _ [31, 22, 23, 6, 24] (by decide +kernel) (by decide +kernel)
set_option maxRecDepth 20000 in
theorem gX8_steps_X8_begins : GoodIn wsX8_steps (va_wsS RX8 126 yX8_begins wsX8_begins) := goodIn_app (goodIn_of _ (by decide +kernel)) ggX8_steps_X8_begins
theorem dX8_steps_0 : decode cX8_steps 0 = .ok (.iload_n 1, 1) := by decide +kernel
theorem dX8_steps_1 : decode cX8_steps 1 = .ok (.invokestatic 109, 3) := by decide +kernel
theorem dX8_steps_4 : decode cX8_steps 4 = .ok (.ifCond .ne 5, 3) := by decide +kernel
theorem dX8_steps_7 : decode cX8_steps 7 = .ok (.iconst (-1), 1) := by decide +kernel
theorem dX8_steps_8 : decode cX8_steps 8 = .ok (.ireturn, 1) := by decide +kernel
theorem dX8_steps_9 : decode cX8_steps 9 = .ok (.aload_n 0, 1) := by decide +kernel
theorem dX8_steps_10 : decode cX8_steps 10 = .ok (.iconst 0, 1) := by decide +kernel
theorem dX8_steps_11 : decode cX8_steps 11 = .ok (.putfield 215, 3) := by decide +kernel
theorem dX8_steps_14 : decode cX8_steps 14 = .ok (.aload_n 0, 1) := by decide +kernel
theorem dX8_steps_15 : decode cX8_steps 15 = .ok (.iload_n 1, 1) := by decide +kernel
theorem dX8_steps_16 : decode cX8_steps 16 = .ok (.invokevirtual 222, 3) := by decide +kernel
theorem dX8_steps_19 : decode cX8_steps 19 = .ok (.iconst 0, 1) := by decide +kernel
theorem dX8_steps_20 : decode cX8_steps 20 = .ok (.istore_n 3, 1) := by decide +kernel
theorem dX8_steps_21 : decode cX8_steps 21 = .ok (.iconst 0, 1) := by decide +kernel
theorem dX8_steps_22 : decode cX8_steps 22 = .ok (.istore 4, 2) := by decide +kernel
theorem dX8_steps_24 : decode cX8_steps 24 = .ok (.iload 4, 2) := by decide +kernel
theorem dX8_steps_26 : decode cX8_steps 26 = .ok (.aload_n 0, 1) := by decide +kernel
theorem dX8_steps_27 : decode cX8_steps 27 = .ok (.getfield 215, 3) := by decide +kernel
theorem dX8_steps_30 : decode cX8_steps 30 = .ok (.if_icmp .ge 41, 3) := by decide +kernel
theorem dX8_steps_33 : decode cX8_steps 33 = .ok (.iload_n 3, 1) := by decide +kernel
theorem dX8_steps_34 : decode cX8_steps 34 = .ok (.iload_n 2, 1) := by decide +kernel
theorem dX8_steps_35 : decode cX8_steps 35 = .ok (.invokestatic 98, 3) := by decide +kernel
theorem dX8_steps_38 : decode cX8_steps 38 = .ok (.aload_n 0, 1) := by decide +kernel
theorem dX8_steps_39 : decode cX8_steps 39 = .ok (.getfield 86, 3) := by decide +kernel
theorem dX8_steps_42 : decode cX8_steps 42 = .ok (.iload 4, 2) := by decide +kernel
theorem dX8_steps_44 : decode cX8_steps 44 = .ok (.laload, 1) := by decide +kernel
theorem dX8_steps_45 : decode cX8_steps 45 = .ok (.aload_n 0, 1) := by decide +kernel
theorem dX8_steps_46 : decode cX8_steps 46 = .ok (.getfield 89, 3) := by decide +kernel
theorem dX8_steps_49 : decode cX8_steps 49 = .ok (.iload 4, 2) := by decide +kernel
theorem dX8_steps_51 : decode cX8_steps 51 = .ok (.iaload, 1) := by decide +kernel
theorem dX8_steps_52 : decode cX8_steps 52 = .ok (.invokestatic 126, 3) := by decide +kernel
theorem dX8_steps_55 : decode cX8_steps 55 = .ok (.ifCond .eq 7, 3) := by decide +kernel
theorem dX8_steps_58 : decode cX8_steps 58 = .ok (.iconst 1, 1) := by decide +kernel
theorem dX8_steps_59 : decode cX8_steps 59 = .ok (.goto 4, 3) := by decide +kernel
theorem dX8_steps_62 : decode cX8_steps 62 = .ok (.iconst 0, 1) := by decide +kernel
theorem dX8_steps_63 : decode cX8_steps 63 = .ok (.iadd, 1) := by decide +kernel
theorem dX8_steps_64 : decode cX8_steps 64 = .ok (.istore_n 3, 1) := by decide +kernel
theorem dX8_steps_65 : decode cX8_steps 65 = .ok (.iinc 4 1, 3) := by decide +kernel
theorem dX8_steps_68 : decode cX8_steps 68 = .ok (.goto (-44), 3) := by decide +kernel
theorem dX8_steps_71 : decode cX8_steps 71 = .ok (.iload_n 3, 1) := by decide +kernel
theorem dX8_steps_72 : decode cX8_steps 72 = .ok (.ireturn, 1) := by decide +kernel
set_option maxRecDepth 20000 in
theorem ggX8_nodes_X8_isBook : GoodIn wsX8_nodes wsX8_isBook := goodIn_r _ [8, 9, 10, 7, 11] (by decide +kernel) (by decide +kernel)
set_option maxRecDepth 20000 in
theorem gX8_nodes_X8_isBook : GoodIn wsX8_nodes (va_wsS RX8 109 yX8_isBook wsX8_isBook) := goodIn_app (goodIn_of _ (by decide +kernel)) ggX8_nodes_X8_isBook
set_option maxRecDepth 20000 in
theorem ggX8_nodes_X8_lies : GoodIn wsX8_nodes wsX8_lies := goodIn_r _ [11] (by decide +kernel) (by decide +kernel)
set_option maxRecDepth 20000 in
theorem gX8_nodes_X8_lies : GoodIn wsX8_nodes (va_wsS RX8 92 yX8_lies wsX8_lies) := goodIn_app (goodIn_of _ (by decide +kernel)) ggX8_nodes_X8_lies
set_option maxRecDepth 20000 in
theorem ggX8_nodes_X8_pressed : GoodIn wsX8_nodes wsX8_pressed := goodIn_r _ [15, 16, 17, 18, 19, 20, 21, 7, 22, 2, 4, 3, 23, 24, 25, 26, 27, 28, 33, 34, 35, 36, 37, 38, 39, 40, 41, 42, 43, 44, 45, 46, 47, 48, 49, 50, 51, 52, 53, 54, 55, 56, 57, 58, 59, 60, 61, 62, 63, 64, 65, 66] (by decide +kernel) (by decide +kernel)
set_option maxRecDepth 20000 in
theorem gX8_nodes_X8_pressed : GoodIn wsX8_nodes (wsV RX8 225 RX8 yX8_pressed wsX8_pressed) := goodIn_app (goodIn_of _ (by decide +kernel)) ggX8_nodes_X8_pressed
set_option maxRecDepth 20000 in
theorem ggX8_nodes_X8_strides : GoodIn wsX8_nodes wsX8_strides := goodIn_r _ [32, 16, 18, 17, 19, 20, 21, 7, 22, 2, 4, 3, 26, 27, 28, 33, 34, 35, 36, 37, 38, 39, 40, 41, 42, 43, 44, 45, 46, 47, 48, 49, 50, 51, 52, 53, 54, 55, 56, 57, 58, 59, 60, 61, 62, 63, 64, 65, 66] (by decide +kernel) (by decide +kernel)
set_option maxRecDepth 20000 in
theorem gX8_nodes_X8_strides : GoodIn wsX8_nodes (wsV RX8 222 RX8 yX8_strides wsX8_strides) := goodIn_app (goodIn_of _ (by decide +kernel)) ggX8_nodes_X8_strides
theorem dX8_nodes_0 : decode cX8_nodes 0 = .ok (.iload_n 1, 1) := by decide +kernel
theorem dX8_nodes_1 : decode cX8_nodes 1 = .ok (.invokestatic 109, 3) := by decide +kernel
theorem dX8_nodes_4 : decode cX8_nodes 4 = .ok (.ifCond .eq 12, 3) := by decide +kernel
theorem dX8_nodes_7 : decode cX8_nodes 7 = .ok (.iload_n 2, 1) := by decide +kernel
theorem dX8_nodes_8 : decode cX8_nodes 8 = .ok (.iconst 0, 1) := by decide +kernel
theorem dX8_nodes_9 : decode cX8_nodes 9 = .ok (.iconst 3, 1) := by decide +kernel
theorem dX8_nodes_10 : decode cX8_nodes 10 = .ok (.invokestatic 92, 3) := by decide +kernel
theorem dX8_nodes_13 : decode cX8_nodes 13 = .ok (.ifCond .ne 7, 3) := by decide +kernel
theorem dX8_nodes_16 : decode cX8_nodes 16 = .ok (.ldc2_w 124, 3) := by decide +kernel
theorem dX8_nodes_19 : decode cX8_nodes 19 = .ok (.lreturn, 1) := by decide +kernel
theorem dX8_nodes_20 : decode cX8_nodes 20 = .ok (.aload_n 0, 1) := by decide +kernel
theorem dX8_nodes_21 : decode cX8_nodes 21 = .ok (.iconst 0, 1) := by decide +kernel
theorem dX8_nodes_22 : decode cX8_nodes 22 = .ok (.putfield 215, 3) := by decide +kernel
theorem dX8_nodes_25 : decode cX8_nodes 25 = .ok (.iload_n 2, 1) := by decide +kernel
theorem dX8_nodes_26 : decode cX8_nodes 26 = .ok (.ifCond .ne 14, 3) := by decide +kernel
theorem dX8_nodes_29 : decode cX8_nodes 29 = .ok (.aload_n 0, 1) := by decide +kernel
theorem dX8_nodes_30 : decode cX8_nodes 30 = .ok (.iload_n 1, 1) := by decide +kernel
theorem dX8_nodes_31 : decode cX8_nodes 31 = .ok (.invokevirtual 225, 3) := by decide +kernel
theorem dX8_nodes_34 : decode cX8_nodes 34 = .ok (.aload_n 0, 1) := by decide +kernel
theorem dX8_nodes_35 : decode cX8_nodes 35 = .ok (.getfield 215, 3) := by decide +kernel
theorem dX8_nodes_38 : decode cX8_nodes 38 = .ok (.i2l, 1) := by decide +kernel
theorem dX8_nodes_39 : decode cX8_nodes 39 = .ok (.lreturn, 1) := by decide +kernel
theorem dX8_nodes_40 : decode cX8_nodes 40 = .ok (.aload_n 0, 1) := by decide +kernel
theorem dX8_nodes_41 : decode cX8_nodes 41 = .ok (.iload_n 1, 1) := by decide +kernel
theorem dX8_nodes_42 : decode cX8_nodes 42 = .ok (.invokevirtual 222, 3) := by decide +kernel
theorem dX8_nodes_45 : decode cX8_nodes 45 = .ok (.iload_n 2, 1) := by decide +kernel
theorem dX8_nodes_46 : decode cX8_nodes 46 = .ok (.iconst 1, 1) := by decide +kernel
theorem dX8_nodes_47 : decode cX8_nodes 47 = .ok (.if_icmp .ne 9, 3) := by decide +kernel
theorem dX8_nodes_50 : decode cX8_nodes 50 = .ok (.aload_n 0, 1) := by decide +kernel
theorem dX8_nodes_51 : decode cX8_nodes 51 = .ok (.getfield 215, 3) := by decide +kernel
theorem dX8_nodes_54 : decode cX8_nodes 54 = .ok (.i2l, 1) := by decide +kernel
theorem dX8_nodes_55 : decode cX8_nodes 55 = .ok (.lreturn, 1) := by decide +kernel
theorem dX8_nodes_56 : decode cX8_nodes 56 = .ok (.iconst 0, 1) := by decide +kernel
theorem dX8_nodes_57 : decode cX8_nodes 57 = .ok (.istore_n 3, 1) := by decide +kernel
theorem dX8_nodes_58 : decode cX8_nodes 58 = .ok (.lconst 0, 1) := by decide +kernel
theorem dX8_nodes_59 : decode cX8_nodes 59 = .ok (.lstore 4, 2) := by decide +kernel
theorem dX8_nodes_61 : decode cX8_nodes 61 = .ok (.iconst 0, 1) := by decide +kernel
theorem dX8_nodes_62 : decode cX8_nodes 62 = .ok (.istore 6, 2) := by decide +kernel
theorem dX8_nodes_64 : decode cX8_nodes 64 = .ok (.iload 6, 2) := by decide +kernel
theorem dX8_nodes_66 : decode cX8_nodes 66 = .ok (.aload_n 0, 1) := by decide +kernel
theorem dX8_nodes_67 : decode cX8_nodes 67 = .ok (.getfield 215, 3) := by decide +kernel
theorem dX8_nodes_70 : decode cX8_nodes 70 = .ok (.if_icmp .ge 64, 3) := by decide +kernel
theorem dX8_nodes_73 : decode cX8_nodes 73 = .ok (.aload_n 0, 1) := by decide +kernel
theorem dX8_nodes_74 : decode cX8_nodes 74 = .ok (.getfield 89, 3) := by decide +kernel
theorem dX8_nodes_77 : decode cX8_nodes 77 = .ok (.iload 6, 2) := by decide +kernel
theorem dX8_nodes_79 : decode cX8_nodes 79 = .ok (.iaload, 1) := by decide +kernel
theorem dX8_nodes_80 : decode cX8_nodes 80 = .ok (.iload_n 3, 1) := by decide +kernel
theorem dX8_nodes_81 : decode cX8_nodes 81 = .ok (.if_icmp .lt 47, 3) := by decide +kernel
theorem dX8_nodes_84 : decode cX8_nodes 84 = .ok (.aload_n 0, 1) := by decide +kernel
theorem dX8_nodes_85 : decode cX8_nodes 85 = .ok (.getfield 89, 3) := by decide +kernel
theorem dX8_nodes_88 : decode cX8_nodes 88 = .ok (.iload 6, 2) := by decide +kernel
theorem dX8_nodes_90 : decode cX8_nodes 90 = .ok (.iaload, 1) := by decide +kernel
theorem dX8_nodes_91 : decode cX8_nodes 91 = .ok (.iload_n 3, 1) := by decide +kernel
theorem dX8_nodes_92 : decode cX8_nodes 92 = .ok (.if_icmp .ne 19, 3) := by decide +kernel
theorem dX8_nodes_95 : decode cX8_nodes 95 = .ok (.aload_n 0, 1) := by decide +kernel
theorem dX8_nodes_96 : decode cX8_nodes 96 = .ok (.getfield 86, 3) := by decide +kernel
theorem dX8_nodes_99 : decode cX8_nodes 99 = .ok (.iload 6, 2) := by decide +kernel
theorem dX8_nodes_101 : decode cX8_nodes 101 = .ok (.laload, 1) := by decide +kernel
theorem dX8_nodes_102 : decode cX8_nodes 102 = .ok (.lload 4, 2) := by decide +kernel
theorem dX8_nodes_104 : decode cX8_nodes 104 = .ok (.lcmp, 1) := by decide +kernel
theorem dX8_nodes_105 : decode cX8_nodes 105 = .ok (.ifCond .lt 6, 3) := by decide +kernel
theorem dX8_nodes_108 : decode cX8_nodes 108 = .ok (.goto 20, 3) := by decide +kernel
theorem dX8_nodes_111 : decode cX8_nodes 111 = .ok (.aload_n 0, 1) := by decide +kernel
theorem dX8_nodes_112 : decode cX8_nodes 112 = .ok (.getfield 89, 3) := by decide +kernel
theorem dX8_nodes_115 : decode cX8_nodes 115 = .ok (.iload 6, 2) := by decide +kernel
theorem dX8_nodes_117 : decode cX8_nodes 117 = .ok (.iaload, 1) := by decide +kernel
theorem dX8_nodes_118 : decode cX8_nodes 118 = .ok (.istore_n 3, 1) := by decide +kernel
theorem dX8_nodes_119 : decode cX8_nodes 119 = .ok (.aload_n 0, 1) := by decide +kernel
theorem dX8_nodes_120 : decode cX8_nodes 120 = .ok (.getfield 86, 3) := by decide +kernel
theorem dX8_nodes_123 : decode cX8_nodes 123 = .ok (.iload 6, 2) := by decide +kernel
theorem dX8_nodes_125 : decode cX8_nodes 125 = .ok (.laload, 1) := by decide +kernel
theorem dX8_nodes_126 : decode cX8_nodes 126 = .ok (.lstore 4, 2) := by decide +kernel
theorem dX8_nodes_128 : decode cX8_nodes 128 = .ok (.iinc 6 1, 3) := by decide +kernel
theorem dX8_nodes_131 : decode cX8_nodes 131 = .ok (.goto (-67), 3) := by decide +kernel
theorem dX8_nodes_134 : decode cX8_nodes 134 = .ok (.iload_n 2, 1) := by decide +kernel
theorem dX8_nodes_135 : decode cX8_nodes 135 = .ok (.iconst 2, 1) := by decide +kernel
theorem dX8_nodes_136 : decode cX8_nodes 136 = .ok (.if_icmp .ne 13, 3) := by decide +kernel
theorem dX8_nodes_139 : decode cX8_nodes 139 = .ok (.iload_n 3, 1) := by decide +kernel
theorem dX8_nodes_140 : decode cX8_nodes 140 = .ok (.bipush 6, 2) := by decide +kernel
theorem dX8_nodes_142 : decode cX8_nodes 142 = .ok (.idiv, 1) := by decide +kernel
theorem dX8_nodes_143 : decode cX8_nodes 143 = .ok (.iconst 1, 1) := by decide +kernel
theorem dX8_nodes_144 : decode cX8_nodes 144 = .ok (.iadd, 1) := by decide +kernel
theorem dX8_nodes_145 : decode cX8_nodes 145 = .ok (.i2l, 1) := by decide +kernel
theorem dX8_nodes_146 : decode cX8_nodes 146 = .ok (.goto 5, 3) := by decide +kernel
theorem dX8_nodes_149 : decode cX8_nodes 149 = .ok (.lload 4, 2) := by decide +kernel
theorem dX8_nodes_151 : decode cX8_nodes 151 = .ok (.lreturn, 1) := by decide +kernel
theorem dJ6_numberOfLeadingZeros_0f7a4_0 : decode cJ6_numberOfLeadingZeros_0f7a4 0 = .ok (.iload_n 0, 1) := by decide +kernel
theorem dJ6_numberOfLeadingZeros_0f7a4_1 : decode cJ6_numberOfLeadingZeros_0f7a4 1 = .ok (.ifCond .gt 14, 3) := by decide +kernel
theorem dJ6_numberOfLeadingZeros_0f7a4_4 : decode cJ6_numberOfLeadingZeros_0f7a4 4 = .ok (.iload_n 0, 1) := by decide +kernel
theorem dJ6_numberOfLeadingZeros_0f7a4_5 : decode cJ6_numberOfLeadingZeros_0f7a4 5 = .ok (.ifCond .ne 8, 3) := by decide +kernel
theorem dJ6_numberOfLeadingZeros_0f7a4_8 : decode cJ6_numberOfLeadingZeros_0f7a4 8 = .ok (.bipush 32, 2) := by decide +kernel
theorem dJ6_numberOfLeadingZeros_0f7a4_10 : decode cJ6_numberOfLeadingZeros_0f7a4 10 = .ok (.goto 4, 3) := by decide +kernel
theorem dJ6_numberOfLeadingZeros_0f7a4_13 : decode cJ6_numberOfLeadingZeros_0f7a4 13 = .ok (.iconst 0, 1) := by decide +kernel
theorem dJ6_numberOfLeadingZeros_0f7a4_14 : decode cJ6_numberOfLeadingZeros_0f7a4 14 = .ok (.ireturn, 1) := by decide +kernel
theorem dJ6_numberOfLeadingZeros_0f7a4_15 : decode cJ6_numberOfLeadingZeros_0f7a4 15 = .ok (.bipush 31, 2) := by decide +kernel
theorem dJ6_numberOfLeadingZeros_0f7a4_17 : decode cJ6_numberOfLeadingZeros_0f7a4 17 = .ok (.istore_n 1, 1) := by decide +kernel
theorem dJ6_numberOfLeadingZeros_0f7a4_18 : decode cJ6_numberOfLeadingZeros_0f7a4 18 = .ok (.iload_n 0, 1) := by decide +kernel
theorem dJ6_numberOfLeadingZeros_0f7a4_19 : decode cJ6_numberOfLeadingZeros_0f7a4 19 = .ok (.ldc_w 264, 3) := by decide +kernel
theorem dJ6_numberOfLeadingZeros_0f7a4_22 : decode cJ6_numberOfLeadingZeros_0f7a4 22 = .ok (.if_icmp .lt 11, 3) := by decide +kernel
theorem dJ6_numberOfLeadingZeros_0f7a4_25 : decode cJ6_numberOfLeadingZeros_0f7a4 25 = .ok (.iinc 1 (-16), 3) := by decide +kernel
theorem dJ6_numberOfLeadingZeros_0f7a4_28 : decode cJ6_numberOfLeadingZeros_0f7a4 28 = .ok (.iload_n 0, 1) := by decide +kernel
theorem dJ6_numberOfLeadingZeros_0f7a4_29 : decode cJ6_numberOfLeadingZeros_0f7a4 29 = .ok (.bipush 16, 2) := by decide +kernel
theorem dJ6_numberOfLeadingZeros_0f7a4_31 : decode cJ6_numberOfLeadingZeros_0f7a4 31 = .ok (.iushr, 1) := by decide +kernel
theorem dJ6_numberOfLeadingZeros_0f7a4_32 : decode cJ6_numberOfLeadingZeros_0f7a4 32 = .ok (.istore_n 0, 1) := by decide +kernel
theorem dJ6_numberOfLeadingZeros_0f7a4_33 : decode cJ6_numberOfLeadingZeros_0f7a4 33 = .ok (.iload_n 0, 1) := by decide +kernel
theorem dJ6_numberOfLeadingZeros_0f7a4_34 : decode cJ6_numberOfLeadingZeros_0f7a4 34 = .ok (.sipush 256, 3) := by decide +kernel
theorem dJ6_numberOfLeadingZeros_0f7a4_37 : decode cJ6_numberOfLeadingZeros_0f7a4 37 = .ok (.if_icmp .lt 11, 3) := by decide +kernel
theorem dJ6_numberOfLeadingZeros_0f7a4_40 : decode cJ6_numberOfLeadingZeros_0f7a4 40 = .ok (.iinc 1 (-8), 3) := by decide +kernel
theorem dJ6_numberOfLeadingZeros_0f7a4_43 : decode cJ6_numberOfLeadingZeros_0f7a4 43 = .ok (.iload_n 0, 1) := by decide +kernel
theorem dJ6_numberOfLeadingZeros_0f7a4_44 : decode cJ6_numberOfLeadingZeros_0f7a4 44 = .ok (.bipush 8, 2) := by decide +kernel
theorem dJ6_numberOfLeadingZeros_0f7a4_46 : decode cJ6_numberOfLeadingZeros_0f7a4 46 = .ok (.iushr, 1) := by decide +kernel
theorem dJ6_numberOfLeadingZeros_0f7a4_47 : decode cJ6_numberOfLeadingZeros_0f7a4 47 = .ok (.istore_n 0, 1) := by decide +kernel
theorem dJ6_numberOfLeadingZeros_0f7a4_48 : decode cJ6_numberOfLeadingZeros_0f7a4 48 = .ok (.iload_n 0, 1) := by decide +kernel
theorem dJ6_numberOfLeadingZeros_0f7a4_49 : decode cJ6_numberOfLeadingZeros_0f7a4 49 = .ok (.bipush 16, 2) := by decide +kernel
theorem dJ6_numberOfLeadingZeros_0f7a4_51 : decode cJ6_numberOfLeadingZeros_0f7a4 51 = .ok (.if_icmp .lt 10, 3) := by decide +kernel
theorem dJ6_numberOfLeadingZeros_0f7a4_54 : decode cJ6_numberOfLeadingZeros_0f7a4 54 = .ok (.iinc 1 (-4), 3) := by decide +kernel
theorem dJ6_numberOfLeadingZeros_0f7a4_57 : decode cJ6_numberOfLeadingZeros_0f7a4 57 = .ok (.iload_n 0, 1) := by decide +kernel
theorem dJ6_numberOfLeadingZeros_0f7a4_58 : decode cJ6_numberOfLeadingZeros_0f7a4 58 = .ok (.iconst 4, 1) := by decide +kernel
theorem dJ6_numberOfLeadingZeros_0f7a4_59 : decode cJ6_numberOfLeadingZeros_0f7a4 59 = .ok (.iushr, 1) := by decide +kernel
theorem dJ6_numberOfLeadingZeros_0f7a4_60 : decode cJ6_numberOfLeadingZeros_0f7a4 60 = .ok (.istore_n 0, 1) := by decide +kernel
theorem dJ6_numberOfLeadingZeros_0f7a4_61 : decode cJ6_numberOfLeadingZeros_0f7a4 61 = .ok (.iload_n 0, 1) := by decide +kernel
theorem dJ6_numberOfLeadingZeros_0f7a4_62 : decode cJ6_numberOfLeadingZeros_0f7a4 62 = .ok (.iconst 4, 1) := by decide +kernel
theorem dJ6_numberOfLeadingZeros_0f7a4_63 : decode cJ6_numberOfLeadingZeros_0f7a4 63 = .ok (.if_icmp .lt 10, 3) := by decide +kernel
theorem dJ6_numberOfLeadingZeros_0f7a4_66 : decode cJ6_numberOfLeadingZeros_0f7a4 66 = .ok (.iinc 1 (-2), 3) := by decide +kernel
theorem dJ6_numberOfLeadingZeros_0f7a4_69 : decode cJ6_numberOfLeadingZeros_0f7a4 69 = .ok (.iload_n 0, 1) := by decide +kernel
theorem dJ6_numberOfLeadingZeros_0f7a4_70 : decode cJ6_numberOfLeadingZeros_0f7a4 70 = .ok (.iconst 2, 1) := by decide +kernel
theorem dJ6_numberOfLeadingZeros_0f7a4_71 : decode cJ6_numberOfLeadingZeros_0f7a4 71 = .ok (.iushr, 1) := by decide +kernel
theorem dJ6_numberOfLeadingZeros_0f7a4_72 : decode cJ6_numberOfLeadingZeros_0f7a4 72 = .ok (.istore_n 0, 1) := by decide +kernel
theorem dJ6_numberOfLeadingZeros_0f7a4_73 : decode cJ6_numberOfLeadingZeros_0f7a4 73 = .ok (.iload_n 1, 1) := by decide +kernel
theorem dJ6_numberOfLeadingZeros_0f7a4_74 : decode cJ6_numberOfLeadingZeros_0f7a4 74 = .ok (.iload_n 0, 1) := by decide +kernel
theorem dJ6_numberOfLeadingZeros_0f7a4_75 : decode cJ6_numberOfLeadingZeros_0f7a4 75 = .ok (.iconst 1, 1) := by decide +kernel
theorem dJ6_numberOfLeadingZeros_0f7a4_76 : decode cJ6_numberOfLeadingZeros_0f7a4 76 = .ok (.iushr, 1) := by decide +kernel
theorem dJ6_numberOfLeadingZeros_0f7a4_77 : decode cJ6_numberOfLeadingZeros_0f7a4 77 = .ok (.isub, 1) := by decide +kernel
theorem dJ6_numberOfLeadingZeros_0f7a4_78 : decode cJ6_numberOfLeadingZeros_0f7a4 78 = .ok (.ireturn, 1) := by decide +kernel
theorem dJ6_numberOfTrailingZeros_0f7a4_0 : decode cJ6_numberOfTrailingZeros_0f7a4 0 = .ok (.iload_n 0, 1) := by decide +kernel
theorem dJ6_numberOfTrailingZeros_0f7a4_1 : decode cJ6_numberOfTrailingZeros_0f7a4 1 = .ok (.iconst (-1), 1) := by decide +kernel
theorem dJ6_numberOfTrailingZeros_0f7a4_2 : decode cJ6_numberOfTrailingZeros_0f7a4 2 = .ok (.ixor, 1) := by decide +kernel
theorem dJ6_numberOfTrailingZeros_0f7a4_3 : decode cJ6_numberOfTrailingZeros_0f7a4 3 = .ok (.iload_n 0, 1) := by decide +kernel
theorem dJ6_numberOfTrailingZeros_0f7a4_4 : decode cJ6_numberOfTrailingZeros_0f7a4 4 = .ok (.iconst 1, 1) := by decide +kernel
theorem dJ6_numberOfTrailingZeros_0f7a4_5 : decode cJ6_numberOfTrailingZeros_0f7a4 5 = .ok (.isub, 1) := by decide +kernel
theorem dJ6_numberOfTrailingZeros_0f7a4_6 : decode cJ6_numberOfTrailingZeros_0f7a4 6 = .ok (.iand, 1) := by decide +kernel
theorem dJ6_numberOfTrailingZeros_0f7a4_7 : decode cJ6_numberOfTrailingZeros_0f7a4 7 = .ok (.istore_n 0, 1) := by decide +kernel
theorem dJ6_numberOfTrailingZeros_0f7a4_8 : decode cJ6_numberOfTrailingZeros_0f7a4 8 = .ok (.iload_n 0, 1) := by decide +kernel
theorem dJ6_numberOfTrailingZeros_0f7a4_9 : decode cJ6_numberOfTrailingZeros_0f7a4 9 = .ok (.ifCond .gt 8, 3) := by decide +kernel
theorem dJ6_numberOfTrailingZeros_0f7a4_12 : decode cJ6_numberOfTrailingZeros_0f7a4 12 = .ok (.iload_n 0, 1) := by decide +kernel
theorem dJ6_numberOfTrailingZeros_0f7a4_13 : decode cJ6_numberOfTrailingZeros_0f7a4 13 = .ok (.bipush 32, 2) := by decide +kernel
theorem dJ6_numberOfTrailingZeros_0f7a4_15 : decode cJ6_numberOfTrailingZeros_0f7a4 15 = .ok (.iand, 1) := by decide +kernel
theorem dJ6_numberOfTrailingZeros_0f7a4_16 : decode cJ6_numberOfTrailingZeros_0f7a4 16 = .ok (.ireturn, 1) := by decide +kernel
theorem dJ6_numberOfTrailingZeros_0f7a4_17 : decode cJ6_numberOfTrailingZeros_0f7a4 17 = .ok (.iconst 1, 1) := by decide +kernel
theorem dJ6_numberOfTrailingZeros_0f7a4_18 : decode cJ6_numberOfTrailingZeros_0f7a4 18 = .ok (.istore_n 1, 1) := by decide +kernel
theorem dJ6_numberOfTrailingZeros_0f7a4_19 : decode cJ6_numberOfTrailingZeros_0f7a4 19 = .ok (.iload_n 0, 1) := by decide +kernel
theorem dJ6_numberOfTrailingZeros_0f7a4_20 : decode cJ6_numberOfTrailingZeros_0f7a4 20 = .ok (.ldc_w 264, 3) := by decide +kernel
theorem dJ6_numberOfTrailingZeros_0f7a4_23 : decode cJ6_numberOfTrailingZeros_0f7a4 23 = .ok (.if_icmp .le 11, 3) := by decide +kernel
theorem dJ6_numberOfTrailingZeros_0f7a4_26 : decode cJ6_numberOfTrailingZeros_0f7a4 26 = .ok (.iinc 1 16, 3) := by decide +kernel
theorem dJ6_numberOfTrailingZeros_0f7a4_29 : decode cJ6_numberOfTrailingZeros_0f7a4 29 = .ok (.iload_n 0, 1) := by decide +kernel
theorem dJ6_numberOfTrailingZeros_0f7a4_30 : decode cJ6_numberOfTrailingZeros_0f7a4 30 = .ok (.bipush 16, 2) := by decide +kernel
theorem dJ6_numberOfTrailingZeros_0f7a4_32 : decode cJ6_numberOfTrailingZeros_0f7a4 32 = .ok (.iushr, 1) := by decide +kernel
theorem dJ6_numberOfTrailingZeros_0f7a4_33 : decode cJ6_numberOfTrailingZeros_0f7a4 33 = .ok (.istore_n 0, 1) := by decide +kernel
theorem dJ6_numberOfTrailingZeros_0f7a4_34 : decode cJ6_numberOfTrailingZeros_0f7a4 34 = .ok (.iload_n 0, 1) := by decide +kernel
theorem dJ6_numberOfTrailingZeros_0f7a4_35 : decode cJ6_numberOfTrailingZeros_0f7a4 35 = .ok (.sipush 256, 3) := by decide +kernel
theorem dJ6_numberOfTrailingZeros_0f7a4_38 : decode cJ6_numberOfTrailingZeros_0f7a4 38 = .ok (.if_icmp .le 11, 3) := by decide +kernel
theorem dJ6_numberOfTrailingZeros_0f7a4_41 : decode cJ6_numberOfTrailingZeros_0f7a4 41 = .ok (.iinc 1 8, 3) := by decide +kernel
theorem dJ6_numberOfTrailingZeros_0f7a4_44 : decode cJ6_numberOfTrailingZeros_0f7a4 44 = .ok (.iload_n 0, 1) := by decide +kernel
theorem dJ6_numberOfTrailingZeros_0f7a4_45 : decode cJ6_numberOfTrailingZeros_0f7a4 45 = .ok (.bipush 8, 2) := by decide +kernel
theorem dJ6_numberOfTrailingZeros_0f7a4_47 : decode cJ6_numberOfTrailingZeros_0f7a4 47 = .ok (.iushr, 1) := by decide +kernel
theorem dJ6_numberOfTrailingZeros_0f7a4_48 : decode cJ6_numberOfTrailingZeros_0f7a4 48 = .ok (.istore_n 0, 1) := by decide +kernel
theorem dJ6_numberOfTrailingZeros_0f7a4_49 : decode cJ6_numberOfTrailingZeros_0f7a4 49 = .ok (.iload_n 0, 1) := by decide +kernel
theorem dJ6_numberOfTrailingZeros_0f7a4_50 : decode cJ6_numberOfTrailingZeros_0f7a4 50 = .ok (.bipush 16, 2) := by decide +kernel
theorem dJ6_numberOfTrailingZeros_0f7a4_52 : decode cJ6_numberOfTrailingZeros_0f7a4 52 = .ok (.if_icmp .le 10, 3) := by decide +kernel
theorem dJ6_numberOfTrailingZeros_0f7a4_55 : decode cJ6_numberOfTrailingZeros_0f7a4 55 = .ok (.iinc 1 4, 3) := by decide +kernel
theorem dJ6_numberOfTrailingZeros_0f7a4_58 : decode cJ6_numberOfTrailingZeros_0f7a4 58 = .ok (.iload_n 0, 1) := by decide +kernel
theorem dJ6_numberOfTrailingZeros_0f7a4_59 : decode cJ6_numberOfTrailingZeros_0f7a4 59 = .ok (.iconst 4, 1) := by decide +kernel
theorem dJ6_numberOfTrailingZeros_0f7a4_60 : decode cJ6_numberOfTrailingZeros_0f7a4 60 = .ok (.iushr, 1) := by decide +kernel
theorem dJ6_numberOfTrailingZeros_0f7a4_61 : decode cJ6_numberOfTrailingZeros_0f7a4 61 = .ok (.istore_n 0, 1) := by decide +kernel
theorem dJ6_numberOfTrailingZeros_0f7a4_62 : decode cJ6_numberOfTrailingZeros_0f7a4 62 = .ok (.iload_n 0, 1) := by decide +kernel
theorem dJ6_numberOfTrailingZeros_0f7a4_63 : decode cJ6_numberOfTrailingZeros_0f7a4 63 = .ok (.iconst 4, 1) := by decide +kernel
theorem dJ6_numberOfTrailingZeros_0f7a4_64 : decode cJ6_numberOfTrailingZeros_0f7a4 64 = .ok (.if_icmp .le 10, 3) := by decide +kernel
theorem dJ6_numberOfTrailingZeros_0f7a4_67 : decode cJ6_numberOfTrailingZeros_0f7a4 67 = .ok (.iinc 1 2, 3) := by decide +kernel
theorem dJ6_numberOfTrailingZeros_0f7a4_70 : decode cJ6_numberOfTrailingZeros_0f7a4 70 = .ok (.iload_n 0, 1) := by decide +kernel
theorem dJ6_numberOfTrailingZeros_0f7a4_71 : decode cJ6_numberOfTrailingZeros_0f7a4 71 = .ok (.iconst 2, 1) := by decide +kernel
theorem dJ6_numberOfTrailingZeros_0f7a4_72 : decode cJ6_numberOfTrailingZeros_0f7a4 72 = .ok (.iushr, 1) := by decide +kernel
theorem dJ6_numberOfTrailingZeros_0f7a4_73 : decode cJ6_numberOfTrailingZeros_0f7a4 73 = .ok (.istore_n 0, 1) := by decide +kernel
theorem dJ6_numberOfTrailingZeros_0f7a4_74 : decode cJ6_numberOfTrailingZeros_0f7a4 74 = .ok (.iload_n 1, 1) := by decide +kernel
theorem dJ6_numberOfTrailingZeros_0f7a4_75 : decode cJ6_numberOfTrailingZeros_0f7a4 75 = .ok (.iload_n 0, 1) := by decide +kernel
theorem dJ6_numberOfTrailingZeros_0f7a4_76 : decode cJ6_numberOfTrailingZeros_0f7a4 76 = .ok (.iconst 1, 1) := by decide +kernel
theorem dJ6_numberOfTrailingZeros_0f7a4_77 : decode cJ6_numberOfTrailingZeros_0f7a4 77 = .ok (.iushr, 1) := by decide +kernel
theorem dJ6_numberOfTrailingZeros_0f7a4_78 : decode cJ6_numberOfTrailingZeros_0f7a4 78 = .ok (.iadd, 1) := by decide +kernel
theorem dJ6_numberOfTrailingZeros_0f7a4_79 : decode cJ6_numberOfTrailingZeros_0f7a4 79 = .ok (.ireturn, 1) := by decide +kernel
theorem dJ9_max_7cf53_0 : decode cJ9_max_7cf53 0 = .ok (.iload_n 0, 1) := by decide +kernel
theorem dJ9_max_7cf53_1 : decode cJ9_max_7cf53 1 = .ok (.iload_n 1, 1) := by decide +kernel
theorem dJ9_max_7cf53_2 : decode cJ9_max_7cf53 2 = .ok (.if_icmp .lt 7, 3) := by decide +kernel
theorem dJ9_max_7cf53_5 : decode cJ9_max_7cf53 5 = .ok (.iload_n 0, 1) := by decide +kernel
theorem dJ9_max_7cf53_6 : decode cJ9_max_7cf53 6 = .ok (.goto 4, 3) := by decide +kernel
theorem dJ9_max_7cf53_9 : decode cJ9_max_7cf53 9 = .ok (.iload_n 1, 1) := by decide +kernel
theorem dJ9_max_7cf53_10 : decode cJ9_max_7cf53 10 = .ok (.ireturn, 1) := by decide +kernel
theorem dJ9_min_7cf53_0 : decode cJ9_min_7cf53 0 = .ok (.iload_n 0, 1) := by decide +kernel
theorem dJ9_min_7cf53_1 : decode cJ9_min_7cf53 1 = .ok (.iload_n 1, 1) := by decide +kernel
theorem dJ9_min_7cf53_2 : decode cJ9_min_7cf53 2 = .ok (.if_icmp .gt 7, 3) := by decide +kernel
theorem dJ9_min_7cf53_5 : decode cJ9_min_7cf53 5 = .ok (.iload_n 0, 1) := by decide +kernel
theorem dJ9_min_7cf53_6 : decode cJ9_min_7cf53 6 = .ok (.goto 4, 3) := by decide +kernel
theorem dJ9_min_7cf53_9 : decode cJ9_min_7cf53 9 = .ok (.iload_n 1, 1) := by decide +kernel
theorem dJ9_min_7cf53_10 : decode cJ9_min_7cf53 10 = .ok (.ireturn, 1) := by decide +kernel
theorem dJ9_min_f86c9_0 : decode cJ9_min_f86c9 0 = .ok (.lload_n 0, 1) := by decide +kernel
theorem dJ9_min_f86c9_1 : decode cJ9_min_f86c9 1 = .ok (.lload_n 2, 1) := by decide +kernel
theorem dJ9_min_f86c9_2 : decode cJ9_min_f86c9 2 = .ok (.lcmp, 1) := by decide +kernel
theorem dJ9_min_f86c9_3 : decode cJ9_min_f86c9 3 = .ok (.ifCond .gt 7, 3) := by decide +kernel
theorem dJ9_min_f86c9_6 : decode cJ9_min_f86c9 6 = .ok (.lload_n 0, 1) := by decide +kernel
theorem dJ9_min_f86c9_7 : decode cJ9_min_f86c9 7 = .ok (.goto 4, 3) := by decide +kernel
theorem dJ9_min_f86c9_10 : decode cJ9_min_f86c9 10 = .ok (.lload_n 2, 1) := by decide +kernel
theorem dJ9_min_f86c9_11 : decode cJ9_min_f86c9 11 = .ok (.lreturn, 1) := by decide +kernel
end
section
/-! the worlds of the class and of the reference: a shape (kinds and lengths, by places), addresses, and a memory of ints and longs by places -/
abbrev gMem : Type := (Nat → Nat → Int32) × (Nat → Nat → Int64)
abbrev gCy : Type := ClassId × ClassId × ClassId
abbrev gSh : Type := List (Nat × Nat)
def gE (cy : gCy) (q : Nat × Nat) (k : Nat) (ad : Nat → Nat) (i : Nat → Int32) (j : Nat → Int64) : va_E := match q.1 with
  | 1 => .inl (cy.1, q.2, .inl i)
  | 2 => .inl (cy.2.1, q.2, .inr (.inl j))
  | 3 => .inl (cy.2.2, q.2, .inr (.inr (.inr (.inr (fun b => some (ad (k + 1 + 4 * b)))))))
  | 4 => .inr (2, [.ref (ad (k + 1)), .ref (ad (k + 2)), .ref (ad (k + 3)), .int (i 3), .int (i 4)])
  | 5 => .inr (4, [.ref (ad (k + 1)), .ref (ad (k + 2)), .ref (ad (k + 3)), .ref (ad (k + 4)), .ref (ad (k + 5)), .ref (ad (k + 6)), .int (i 6)])
  | 6 => .inr (3, [.ref (ad (k + 1)), .ref (ad (k + 2)), .int (i 2), .long (j 3), .ref (ad (k + 3)), .int (i 5)])
  | 7 => .inr (1, [.long (j 0), .long (j 1)])
  | 8 => .inr (0, [.ref (ad (k + 1)), .ref (ad (k + 2)), .int (i 2)])
  | 9 => .inr (5, [.ref (ad (k + 1)), .ref (ad (k + 5)), .ref (ad (k + 9)), .ref (ad (k + 13)), .int (i 4)])
  | 10 => .inr (6, [.ref (ad (k + 1)), .ref (ad (k + 26)), .ref (ad (k + 30)), .ref (ad (k + 34)), .ref (ad (k + 41)), .ref (ad (k + 45)), .ref (ad (k + 49)), .ref (ad (k + 50)), .ref (ad (k + 53))])
  | _ => .inr (7, [.ref (ad (k + 1)), .ref (ad (k + 2)), .ref (ad (k + 3)), .ref (ad (k + 4)), .int (i 4), .ref (ad (k + 5)), .ref (ad (k + 6)), .ref (ad (k + 7)), .ref (ad (k + 8)), .ref (ad (k + 9)), .ref (ad (k + 10)), .ref (ad (k + 11)), .ref (ad (k + 12)), .ref (ad (k + 13)), .int (i 14), .ref (ad (k + 14)), .ref (ad (k + 15)), .ref (ad (k + 16)), .int (i 18), .ref (ad (k + 17)), .ref (ad (k + 18)), .int (i 21), .int (i 22), .ref (ad (k + 19)), .ref (ad (k + 20)), .ref (ad (k + 21)), .ref (ad (k + 22)), .int (i 27), .ref (ad (k + 23)), .ref (ad (k + 24)), .ref (ad (k + 25)), .int (i 31), .ref (ad (k + 26)), .ref (ad (k + 27))])
def gL (sh : gSh) (cy : gCy) (ad : Nat → Nat) (M : gMem) : va_W := (List.range sh.length).map (fun k => (ad k, gE cy (sh.getD k (0, 0)) k ad (M.1 k) (M.2 k)))
theorem gSh_lt {sh : gSh} {k : Nat} {q : Nat × Nat} (h : sh[k]? = some q) : k < sh.length := (List.getElem?_eq_some_iff.mp h).1
theorem gL_at {sh : gSh} {cy : gCy} {ad : Nat → Nat} {M : gMem} {k : Nat} {q : Nat × Nat} (h : sh[k]? = some q) : (gL sh cy ad M)[k]? = some (ad k, gE cy q k ad (M.1 k) (M.2 k)) := by
  obtain ⟨hk, hq⟩ := List.getElem?_eq_some_iff.mp h
  simp [gL, hk, hq]
theorem gL_in {sh : gSh} {cy : gCy} {ad : Nat → Nat} {M : gMem} {k : Nat} {q : Nat × va_E} (h : (gL sh cy ad M)[k]? = some q) : k < sh.length ∧ q.1 = ad k := by
  have h1 := (List.getElem?_eq_some_iff.mp h).1
  have hk : k < sh.length := by simpa [gL] using h1
  refine ⟨hk, ?_⟩
  simp [gL, hk] at h
  rw [← h]
theorem gL_set {sh : gSh} {cy : gCy} {ad : Nat → Nat} {M M' : gMem} {k : Nat} {q : Nat × Nat} {e : va_E} (h : sh[k]? = some q) (he : gE cy q k ad (M'.1 k) (M'.2 k) = e) (ho : ∀ j, j ≠ k → M'.1 j = M.1 j ∧ M'.2 j = M.2 j) : (gL sh cy ad M).set k (ad k, e) = gL sh cy ad M' := by
  have hk := gSh_lt h
  apply List.ext_getElem?
  intro j
  rw [List.getElem?_set]
  by_cases hj : k = j
  · subst hj
    rw [gL_at (M := M') h, he]
    simp [gL, hk]
  · rw [if_neg hj]
    by_cases hl : j < sh.length
    · have hq : sh[j]? = some sh[j] := List.getElem?_eq_getElem hl
      rw [gL_at hq, gL_at hq, (ho j (Ne.symm hj)).1, (ho j (Ne.symm hj)).2]
    · have z : ∀ X : gMem, (gL sh cy ad X)[j]? = none := fun X => List.getElem?_eq_none (by simpa [gL] using Nat.not_lt.mp hl)
      rw [z, z]
def sI (M : gMem) (k j : Nat) (v : Int32) : gMem := (va_up M.1 k (upd (M.1 k) j v), M.2)
def sJ (M : gMem) (k j : Nat) (v : Int64) : gMem := (M.1, va_up M.2 k (vp_updL (M.2 k) j v))
theorem sI_off {M : gMem} {k j : Nat} {v : Int32} : ∀ x, x ≠ k → (sI M k j v).1 x = M.1 x ∧ (sI M k j v).2 x = M.2 x := fun _ hx => ⟨va_up_ne _ _ hx, rfl⟩
theorem sJ_off {M : gMem} {k j : Nat} {v : Int64} : ∀ x, x ≠ k → (sJ M k j v).1 x = M.1 x ∧ (sJ M k j v).2 x = M.2 x := fun _ hx => ⟨rfl, va_up_ne _ _ hx⟩
theorem sI_at {M : gMem} {k j : Nat} {v : Int32} : (sI M k j v).1 k = upd (M.1 k) j v := va_up_self _ _ _
theorem sJ_at {M : gMem} {k j : Nat} {v : Int64} : (sJ M k j v).2 k = vp_updL (M.2 k) j v := va_up_self _ _ _
abbrev gTy (cy : gCy) : List (ClassId × FieldType) := [(cy.1, .int), (cy.2.1, .long), (cy.2.2, .object RX2)]
def gNf : List (String × Nat × String × String × String × String) := [("PrefixLeader", 179, "PrefixLeader$Tree", "size", "I", "PrefixLeader"), ("PrefixLeader$Difference", 36, "PrefixLeader$Spans", "goal", "[I", "PrefixLeader"), ("PrefixLeader$Difference", 22, "PrefixLeader$Spans", "size", "I", "PrefixLeader"), ("PrefixLeader", 135, "PrefixLeader$Spans", "size", "I", "PrefixLeader"), ("PrefixLeader", 151, "PrefixLeader$Difference", "start", "J", "PrefixLeader"), ("PrefixLeader", 147, "PrefixLeader$Difference", "amount", "J", "PrefixLeader"), ("PrefixLeader", 165, "PrefixLeader$Cover", "size", "I", "PrefixLeader"), ("PrefixLeader", 171, "PrefixLeader$Way", "size", "I", "PrefixLeader")]
def gNm : List (String × Nat × MethodName × String) := [("PrefixLeader", 27, ⟨"PrefixLeader$Tree", "<init>", "()V"⟩, "PrefixLeader"), ("PrefixLeader", 34, ⟨"PrefixLeader$Spans", "<init>", "()V"⟩, "PrefixLeader"), ("PrefixLeader", 44, ⟨"PrefixLeader$Difference", "<init>", "()V"⟩, "PrefixLeader"), ("PrefixLeader", 51, ⟨"PrefixLeader$Cover", "<init>", "()V"⟩, "PrefixLeader"), ("PrefixLeader", 58, ⟨"PrefixLeader$Way", "<init>", "()V"⟩, "PrefixLeader"), ("PrefixLeader$Lines", 31, ⟨"PrefixLeader", "wide", "(I)J"⟩, "PrefixLeader"), ("PrefixLeader$Lines", 52, ⟨"PrefixLeader", "begins", "(III)Z"⟩, "PrefixLeader"), ("PrefixLeader$Lines", 84, ⟨"PrefixLeader", "bitAt", "(I)I"⟩, "PrefixLeader"), ("PrefixLeader$Tree", 65, ⟨"PrefixLeader", "mask", "(I)I"⟩, "PrefixLeader"), ("PrefixLeader$Tree", 84, ⟨"PrefixLeader", "bitAt", "(I)I"⟩, "PrefixLeader"), ("PrefixLeader$Lines", 35, ⟨"PrefixLeader", "mask", "(I)I"⟩, "PrefixLeader"), ("PrefixLeader$Way", 86, ⟨"PrefixLeader", "begins", "(III)Z"⟩, "PrefixLeader"), ("PrefixLeader$Strides", 25, ⟨"PrefixLeader", "mask", "(I)I"⟩, "PrefixLeader"), ("PrefixLeader$Strides", 36, ⟨"PrefixLeader", "wide", "(I)J"⟩, "PrefixLeader"), ("PrefixLeader$Strides", 47, ⟨"PrefixLeader", "begins", "(III)Z"⟩, "PrefixLeader")]
def gNw (U : State) : Prop := (∀ q ∈ gNf, va_Nw (.fieldLinkNest q.1 q.2.1 q.2.2.1 q.2.2.2.1 q.2.2.2.2.1 q.2.2.2.2.2) U) ∧ ∀ q ∈ gNm, va_Nw (.methodLinkNest q.1 q.2.1 q.2.2.1 q.2.2.2) U
theorem gNw.warm {s U : State} (hW : s.WarmedH U.vm) (h : gNw s) : gNw U := ⟨fun q hq => (h.1 q hq).warmF hW, fun q hq => (h.2 q hq).warmM hW⟩
theorem gNw.same {s U : State} (hv : s.vm = U.vm) (h : gNw s) : gNw U := ⟨fun q hq => (h.1 q hq).same rfl hv, fun q hq => (h.2 q hq).same rfl hv⟩
def gA (sh : gSh) (ad : Nat → Nat) : Nat → Prop := fun q => ∃ k, k < sh.length ∧ q = ad k
def gInj (sh : gSh) (ad : Nat → Nat) : Prop := ∀ i j, i < sh.length → j < sh.length → ad i = ad j → i = j
theorem gD {sh : gSh} {cy : gCy} {ad : Nat → Nat} {M : gMem} (hi : gInj sh ad) : va_D (gA sh ad) (gL sh cy ad M) := by
  refine ⟨fun i j p q hp hq e => ?_, fun k q h => ?_⟩
  · have h1 := gL_in hp
    have h2 := gL_in hq
    exact hi i j h1.1 h2.1 (by rw [← h1.2, ← h2.2, e])
  · have h1 := gL_in h
    exact ⟨k, h1.1, h1.2⟩
/-- what a method of a world starts from and ends with -/
def gP (sh : gSh) (D : va_G) (cy : gCy) (ad : Nat → Nat) (M : gMem) (U : State) : Prop := va_K D vwCl (gTy cy) U ∧ gNw U ∧ gInj sh ad ∧ va_P D vwCl (gL sh cy ad M) U.heap
/-- and what holds within it -/
def gW (sh : gSh) (D : va_G) (cy : gCy) (ad : Nat → Nat) (s : State) (H0 : Heap) (M : gMem) (H : Heap) (locs : List Loc) : Prop := va_K D vwCl (gTy cy) s ∧ gNw s ∧ gInj sh ad ∧ va_P D vwCl (gL sh cy ad M) H ∧ va_S (gA sh ad) H0 H locs
abbrev gR (f n : Nat) : Room := { frames := f, cells := 0, slots := 0, locals := n }
abbrev gQi (sh : gSh) (D : va_G) (cy : gCy) (ad : Nat → Nat) (r : Int32) (M : gMem) : Array Value → State → Outcome → State → Prop := va_Qi (fun (r' : Int32) (u : gMem) => r' = r ∧ u = M) (fun u t => gP sh D cy ad u t) (gA sh ad)
abbrev gQl (sh : gSh) (D : va_G) (cy : gCy) (ad : Nat → Nat) (r : Int64) (M : gMem) : Array Value → State → Outcome → State → Prop := va_Ql (fun (r' : Int64) (u : gMem) => r' = r ∧ u = M) (fun u t => gP sh D cy ad u t) (gA sh ad)
abbrev gQv (sh : gSh) (D : va_G) (cy : gCy) (ad : Nat → Nat) (M : gMem) : Array Value → State → Outcome → State → Prop := va_Qv (fun (u : gMem) => u = M) (fun u t => gP sh D cy ad u t) (gA sh ad)
theorem gP_blind {sh : gSh} {D : va_G} {cy : gCy} {ad : Nat → Nat} {M : gMem} {As : List Value} : FrameBlind (va_Pc As (gP sh D cy ad M)) := fun a U g mk h => ⟨h.1, va_K.moved (u := U) (U := U.calling g mk a) (Vm.Alike.refl U.vm) h.2.1, gNw.same rfl h.2.2.1, h.2.2.2.1, h.2.2.2.2⟩
def ck {α : Type} (q : Bool) (x : Option α) : Option α := if q = true then x else none
theorem ck_ok {α : Type} {q : Bool} {x : Option α} {r : α} (h : ck q x = some r) : q = true ∧ x = some r := by
  unfold ck at h
  by_cases hq : q = true
  · rw [if_pos hq] at h; exact ⟨hq, h⟩
  · rw [if_neg hq] at h; cases h
theorem ck_t {α : Type} {q : Bool} {x : Option α} (h : q = true) : ck q x = x := if_pos h
theorem bd_ok {α β : Type} {x : Option α} {f : α → Option β} {r : β} (h : x.bind f = some r) : ∃ a, x = some a ∧ f a = some r := Option.bind_eq_some_iff.mp h
/-- an index within its row -/
def inb (i : Int32) (n : Nat) : Bool := decide (¬ (i < 0 ∨ n ≤ i.toNatClampNeg))
theorem inb_ok {i : Int32} {n : Nat} (h : inb i n = true) : vp_in i n := show ¬ (i < 0 ∨ n ≤ i.toNatClampNeg) from of_decide_eq_true h
theorem inb_of {i : Int32} {n : Nat} (h : vp_in i n) : inb i n = true := decide_eq_true (show ¬ (i < 0 ∨ n ≤ i.toNatClampNeg) from h)
def nz (x : Int32) : Bool := decide (¬ x = 0)
def nzL (x : Int64) : Bool := decide (¬ x = 0)
theorem nz_ok {x : Int32} (h : nz x = true) : ¬ x = 0 := of_decide_eq_true h
theorem nzL_ok {x : Int64} (h : nzL x = true) : ¬ x = 0 := of_decide_eq_true h
/-- a truth value -/
def tv (x : Int32) : Bool := decide (x = 0 ∨ x = 1)
theorem tv_ok {x : Int32} (h : tv x = true) : narrow .boolean (.int x) = .int x := by
  rcases (of_decide_eq_true h : x = 0 ∨ x = 1) with rfl | rfl <;> rfl
def FU : Nat := 100000
def nmd {α β : Type} (a : α) (f : α → Option β) : Option β := f a
theorem nmd_ok {α β : Type} {a : α} {f : α → Option β} {r : β} (h : nmd a f = some r) : ∃ x, x = a ∧ f x = some r := ⟨a, rfl, h⟩
abbrev ush (x y : Int32) : Int32 := (x.toUInt32 >>> (y.toUInt32 &&& Int32.toUInt32 31)).toInt32
theorem cmp_lt {x y : Int64} : lg_cmp x y < 0 ↔ x < y := by
  unfold lg_cmp
  by_cases h : x > y
  · rw [if_pos h]; exact ⟨fun q => absurd q (by decide), fun q => absurd h (by rw [gt_iff_lt, Int64.lt_iff_toInt_lt]; rw [Int64.lt_iff_toInt_lt] at q; omega)⟩
  · rw [if_neg h]
    by_cases h2 : x = y
    · rw [if_pos h2]; exact ⟨fun q => absurd q (by decide), fun q => by rw [h2, Int64.lt_iff_toInt_lt] at q; omega⟩
    · rw [if_neg h2]
      refine ⟨fun _ => ?_, fun _ => by decide⟩
      rw [gt_iff_lt, Int64.lt_iff_toInt_lt] at h
      have h3 : x.toInt ≠ y.toInt := fun q => h2 (Int64.toInt_inj.mp q)
      rw [Int64.lt_iff_toInt_lt]; omega
theorem cmp_gt {x y : Int64} : 0 < lg_cmp x y ↔ y < x := by
  unfold lg_cmp
  by_cases h : x > y
  · rw [if_pos h]; exact ⟨fun _ => h, fun _ => by decide⟩
  · rw [if_neg h]
    refine ⟨fun q => ?_, fun q => absurd q h⟩
    by_cases h2 : x = y
    · rw [if_pos h2] at q; exact absurd q (by decide)
    · rw [if_neg h2] at q; exact absurd q (by decide)
theorem i32_nlt {a b : Int32} : ¬ a < b ↔ b ≤ a := by rw [Int32.lt_iff_toInt_lt, Int32.le_iff_toInt_le]; omega
theorem i64_nlt {a b : Int64} : ¬ a < b ↔ b ≤ a := by rw [Int64.lt_iff_toInt_lt, Int64.le_iff_toInt_le]; omega
theorem cmp_ge {x y : Int64} : 0 ≤ lg_cmp x y ↔ y ≤ x := by rw [← i32_nlt, ← i64_nlt, cmp_lt]
theorem cmp_le {x y : Int64} : lg_cmp x y ≤ 0 ↔ x ≤ y := by rw [← i32_nlt, ← i64_nlt, cmp_gt]
theorem cmp_eq {x y : Int64} : lg_cmp x y = 0 ↔ x = y := by
  unfold lg_cmp
  by_cases h : x > y
  · rw [if_pos h]; exact ⟨fun q => absurd q (by decide), fun q => by rw [q, gt_iff_lt, Int64.lt_iff_toInt_lt] at h; omega⟩
  · rw [if_neg h]
    by_cases h2 : x = y
    · rw [if_pos h2]; exact ⟨fun _ => h2, fun _ => rfl⟩
    · rw [if_neg h2]; exact ⟨fun q => absurd q (by decide), fun q => absurd q h2⟩
theorem cmp_ne {x y : Int64} : ¬ lg_cmp x y = 0 ↔ ¬ x = y := not_congr cmp_eq
theorem tb_ne {x : Int32} {k : Int32} (h : ¬ x = k) : x.toInt ≠ k.toInt := fun q => h (Int32.toInt_inj.mp q)
theorem tb3 {x : Int32} (h0 : ¬ x = 0) (h1 : ¬ x = 1) (h2 : ¬ x = 2) : x.toInt < 0 ∨ 2 < x.toInt := by
  have a := tb_ne h0; have b := tb_ne h1; have c := tb_ne h2
  have e0 : (0 : Int32).toInt = 0 := rfl
  have e1 : (1 : Int32).toInt = 1 := rfl
  have e2 : (2 : Int32).toInt = 2 := rfl
  omega
theorem tb4 {x : Int32} (h0 : ¬ x = 0) (h1 : ¬ x = 1) (h2 : ¬ x = 2) (h3 : ¬ x = 3) : x.toInt < 0 ∨ 3 < x.toInt := by
  have a := tb_ne h0; have b := tb_ne h1; have c := tb_ne h2; have d := tb_ne h3
  have e0 : (0 : Int32).toInt = 0 := rfl
  have e1 : (1 : Int32).toInt = 1 := rfl
  have e2 : (2 : Int32).toInt = 2 := rfl
  have e3 : (3 : Int32).toInt = 3 := rfl
  omega
section GB
variable {p : Program} {l : Launch} {e : Env} {R : Room} {s : State} {m : MethodId} {args : Array Value} {below : List Frame} {meth : Method} {c : Code} {H H0 : Heap} {locs : List Loc} {cells slots : Nat} {Q : State → Prop}
variable {cc : ByteArray} {pc nL : Nat} {ls : Array Slot} {rest : List Value} {sh : gSh} {D : va_G} {cy : gCy} {ad : Nat → Nat} {M M' : gMem} {Ts : List Cond} {own : String}
theorem gNmI {x y : Int32} (h : x = y) (k : W p l e R s m args below meth c H locs cells slots Q (F0 m pc ls (.int x :: rest))) : W p l e R s m args below meth c H locs cells slots Q (F0 m pc ls (.int y :: rest)) := h ▸ k
theorem gNmJ {x y : Int64} (h : x = y) (k : W p l e R s m args below meth c H locs cells slots Q (F0 m pc ls (.long x :: rest))) : W p l e R s m args below meth c H locs cells slots Q (F0 m pc ls (.long y :: rest)) := h ▸ k
theorem gEnter {y : MethodName} {ws ws' : List Cond} {rm : Room} {maxL : Nat} {ret : Option FieldType} {As : List Value} {Qc : Array Value → State → Outcome → State → Prop} (hy : plainName y.cls = true) (hw : ws = Cond.code y cc maxL ret :: ws') (hlen : (lg_sl As).length ≤ maxL)
    (body : ∀ (p : Program) (e : Env) (s : State) (m : MethodId) (below : List Frame) (meth : Method) (c : Code) (ls : Array Slot), CallFix p m c cc maxL s As.toArray ws y.cls → meth.sig.returnType = ret → meth.locks = false → gW sh D cy ad s s.heap M s.heap [] → lv_has ls maxL (lv_args 0 As) →
      W p l e rm s m As.toArray below meth c s.heap [] 0 0 (MQ below Qc As.toArray s 0 0 (gA sh ad)) (F0 m 0 ls [])) : Met l y ws rm (va_Pc As (gP sh D cy ad M)) Qc 0 0 (gA sh ad) := by
  refine Met.ofW (cc := cc) (maxL := maxL) (ret := ret) hy hw ?_
  intro p e s m args below meth c s₁ B hml hv
  obtain ⟨rfl, hK, hN, hI, hP⟩ := hv
  rw [lg_entry_eq]
  exact body p e s m below meth c _ ⟨B.exec, B.bytes, hml, findClass_of_methodNamed B.named, atoms_spec (ws := ws) B.pre⟩ B.returns B.notSynchronized ⟨hK, hN, hI, hP, va_S.rf⟩ (lv_entry As hlen)
theorem gW.P (C : gW sh D cy ad s H0 M H locs) : ∀ U : State, U.heap = H → s.WarmedH U.vm → gP sh D cy ad M U := fun U hU hW => ⟨va_K.moved hW.alike C.1, gNw.warm hW C.2.1, C.2.2.1, by rw [hU]; exact C.2.2.2.1⟩
theorem gReti {v r : Int32} (S : CallFix p m c cc nL s args Ts own) (hr : meth.sig.returnType = some .int) (hlk : meth.locks = false) (C : gW sh D cy ad s s.heap M H locs) (hv : v = r) (hM : M = M') (hd : decode cc pc = .ok (.ireturn, 1)) : W p l e R s m args below meth c H locs 0 0 (MQ below (gQi sh D cy ad r M') args s 0 0 (gA sh ad)) (F0 m pc ls [.int v]) :=
  W.iret S.1 S.2.1 hr (fun t ht hW => ⟨⟨v, M, rfl, ⟨hv, hM⟩, C.P t ht hW⟩, C.2.2.2.2.F ht⟩) C.2.2.2.2.2.2 hd hlk
theorem gRetz {v r : Int32} (S : CallFix p m c cc nL s args Ts own) (hr : meth.sig.returnType = some .boolean) (hlk : meth.locks = false) (C : gW sh D cy ad s s.heap M H locs) (hz : narrow .boolean (.int v) = .int v) (hv : v = r) (hM : M = M') (hd : decode cc pc = .ok (.ireturn, 1)) : W p l e R s m args below meth c H locs 0 0 (MQ below (gQi sh D cy ad r M') args s 0 0 (gA sh ad)) (F0 m pc ls [.int v]) :=
  W.zret S.1 S.2.1 hr hz (fun t ht hW => ⟨⟨v, M, rfl, ⟨hv, hM⟩, C.P t ht hW⟩, C.2.2.2.2.F ht⟩) C.2.2.2.2.2.2 hd hlk
theorem gRetl {v r : Int64} (S : CallFix p m c cc nL s args Ts own) (hr : meth.sig.returnType = some .long) (hlk : meth.locks = false) (C : gW sh D cy ad s s.heap M H locs) (hv : v = r) (hM : M = M') (hd : decode cc pc = .ok (.lreturn, 1)) : W p l e R s m args below meth c H locs 0 0 (MQ below (gQl sh D cy ad r M') args s 0 0 (gA sh ad)) (F0 m pc ls [.long v]) :=
  W.lret S.1 S.2.1 hr (fun t ht hW => ⟨⟨v, M, rfl, ⟨hv, hM⟩, C.P t ht hW⟩, C.2.2.2.2.F ht⟩) C.2.2.2.2.2.2 hd hlk
theorem gRetv (S : CallFix p m c cc nL s args Ts own) (hr : meth.sig.returnType = none) (hlk : meth.locks = false) (C : gW sh D cy ad s s.heap M H locs) (hM : M = M') (hd : decode cc pc = .ok (.return_, 1)) : W p l e R s m args below meth c H locs 0 0 (MQ below (gQv sh D cy ad M') args s 0 0 (gA sh ad)) (F0 m pc ls []) :=
  W.vret S.1 S.2.1 hr (fun t ht hW => ⟨⟨M, rfl, hM, C.P t ht hW⟩, C.2.2.2.2.F ht⟩) C.2.2.2.2.2.2 hd hlk
theorem g_get (S : CallFix p m c cc nL s args Ts own) (C : gW sh D cy ad s H0 M H locs) {k ci f n index : Nat} {q : Nat × Nat} {Cn : String} {T : u_T} {fs : List Value} {v : Value} (hin : ∀ w ∈ u_ws Cn T n, w ∈ Ts) (hlink : Cond.fieldLink own index (T f).1 (T f).2.1 (T f).2.2.1 ∈ Ts) (hc : vwCl[ci]? = some (Cn, T, n)) (hf : f < n) (hq : sh[k]? = some q) (he : gE cy q k ad (M.1 k) (M.2 k) = .inr (ci, fs)) (hv : fs[f]? = some v) (hd : decode cc pc = .ok (.getfield index, 3)) (kk : W p l e R s m args below meth c H locs cells slots Q (F0 m (pc + 3) ls (v :: rest))) : W p l e R s m args below meth c H locs cells slots Q (F0 m pc ls (.ref (ad k) :: rest)) :=
  va_get S.1 S.2.1 S.2.2.2.2 hin S.2.2.2.1 C.1 C.2.2.2.1 k (by rw [gL_at hq, he]) hc f hf (S.2.2.2.2 _ hlink) (fun _ h => h) hv hd kk
theorem g_getN (S : CallFix p m c cc nL s args Ts own) (C : gW sh D cy ad s H0 M H locs) {k ci f n index : Nat} {q : Nat × Nat} {Cn host : String} {T : u_T} {fs : List Value} {v : Value} (hin : ∀ w ∈ u_ws Cn T n, w ∈ Ts) (hlink : (own, index, (T f).1, (T f).2.1, (T f).2.2.1, host) ∈ gNf) (hc : vwCl[ci]? = some (Cn, T, n)) (hf : f < n) (hq : sh[k]? = some q) (he : gE cy q k ad (M.1 k) (M.2 k) = .inr (ci, fs)) (hv : fs[f]? = some v) (hd : decode cc pc = .ok (.getfield index, 3)) (kk : W p l e R s m args below meth c H locs cells slots Q (F0 m (pc + 3) ls (v :: rest))) : W p l e R s m args below meth c H locs cells slots Q (F0 m pc ls (.ref (ad k) :: rest)) :=
  va_getN S.1 S.2.1 S.2.2.2.2 hin S.2.2.2.1 C.1 C.2.2.2.1 k (by rw [gL_at hq, he]) hc f hf (va_Nw.use rfl (C.2.1.1 _ hlink)) (fun _ h => h) hv hd kk
theorem g_put (S : CallFix p m c cc nL s args Ts own) (C : gW sh D cy ad s H0 M H locs) {k ci f n index : Nat} {q : Nat × Nat} {Cn : String} {T : u_T} {fs : List Value} {v : Value} {ty : FieldType} (hin : ∀ w ∈ u_ws Cn T n, w ∈ Ts) (ty0 : Nat → FieldType) (hty : ∀ k, k < n → parseFieldDescriptor (T k).2.2.1 = some (ty0 k)) (hnm : ∀ a, a < n → ∀ b, b < n → a ≠ b → (T a).2.1 ≠ (T b).2.1) (hlink : Cond.fieldLink own index (T f).1 (T f).2.1 (T f).2.2.1 ∈ Ts) (hc : vwCl[ci]? = some (Cn, T, n)) (hf : f < n) (hfin : (T f).2.2.2 = false) (hd0 : parseFieldDescriptor (T f).2.2.1 = some ty) (hn : narrow ty v = v) (hfit : fits ty v = true) (hq : sh[k]? = some q) (he : gE cy q k ad (M.1 k) (M.2 k) = .inr (ci, fs)) (hl : f < fs.length) (hM : gE cy q k ad (M'.1 k) (M'.2 k) = .inr (ci, fs.set f v)) (ho : ∀ j, j ≠ k → M'.1 j = M.1 j ∧ M'.2 j = M.2 j) (hd : decode cc pc = .ok (.putfield index, 3))
    (kk : ∀ (H1 : Heap) (locs1 : List Loc), gW sh D cy ad s H0 M' H1 locs1 → W p l e R s m args below meth c H1 locs1 cells slots Q (F0 m (pc + 3) ls rest)) : W p l e R s m args below meth c H locs cells slots Q (F0 m pc ls (v :: .ref (ad k) :: rest)) := by
  refine va_put S.1 S.2.1 S.2.2.2.2 hin ty0 hty hnm S.2.2.2.1 C.1 C.2.2.2.1 (gD C.2.2.1) C.2.2.2.2 k (by rw [gL_at hq, he]) hc f hf (S.2.2.2.2 _ hlink) (fun _ h => h) hfin hd0 hn hfit hl hd (fun H1 locs1 hP hD hS => ?_)
  rw [gL_set hq hM ho] at hP
  exact kk H1 locs1 ⟨C.1, C.2.1, C.2.2.1, hP, hS⟩
theorem g_iald (S : CallFix p m c cc nL s args Ts own) (C : gW sh D cy ad s H0 M H locs) {k n : Nat} {i : Int32} (hq : sh[k]? = some (1, n)) (hin : inb i n = true) (hd : decode cc pc = .ok (.iaload, 1)) (kk : W p l e R s m args below meth c H locs cells slots Q (F0 m (pc + 1) ls (.int (M.1 k i.toNatClampNeg) :: rest))) : W p l e R s m args below meth c H locs cells slots Q (F0 m pc ls (.int i :: .ref (ad k) :: rest)) :=
  va_iald S.1 S.2.1 C.1 C.2.2.2.1 k 0 (gL_at hq) rfl (inb_ok hin) hd kk
theorem g_lald (S : CallFix p m c cc nL s args Ts own) (C : gW sh D cy ad s H0 M H locs) {k n : Nat} {i : Int32} (hq : sh[k]? = some (2, n)) (hin : inb i n = true) (hd : decode cc pc = .ok (.laload, 1)) (kk : W p l e R s m args below meth c H locs cells slots Q (F0 m (pc + 1) ls (.long (M.2 k i.toNatClampNeg) :: rest))) : W p l e R s m args below meth c H locs cells slots Q (F0 m pc ls (.int i :: .ref (ad k) :: rest)) :=
  va_lald S.1 S.2.1 C.1 C.2.2.2.1 k 1 (gL_at hq) rfl (inb_ok hin) hd kk
theorem g_aald (S : CallFix p m c cc nL s args Ts own) (C : gW sh D cy ad s H0 M H locs) {k n : Nat} {i : Int32} (hq : sh[k]? = some (3, n)) (hin : inb i n = true) (hd : decode cc pc = .ok (.aaload, 1)) (kk : W p l e R s m args below meth c H locs cells slots Q (F0 m (pc + 1) ls (.ref (ad (k + 1 + 4 * i.toNatClampNeg)) :: rest))) : W p l e R s m args below meth c H locs cells slots Q (F0 m pc ls (.int i :: .ref (ad k) :: rest)) :=
  va_aldq S.1 S.2.1 C.1 C.2.2.2.1 k 2 (gL_at hq) rfl (inb_ok hin) hd kk
theorem g_iast (S : CallFix p m c cc nL s args Ts own) (C : gW sh D cy ad s H0 M H locs) {k n : Nat} {i x : Int32} (hq : sh[k]? = some (1, n)) (hin : inb i n = true) (hd : decode cc pc = .ok (.iastore, 1)) (kk : ∀ (H1 : Heap) (locs1 : List Loc), gW sh D cy ad s H0 (sI M k i.toNatClampNeg x) H1 locs1 → W p l e R s m args below meth c H1 locs1 cells slots Q (F0 m (pc + 1) ls rest)) : W p l e R s m args below meth c H locs cells slots Q (F0 m pc ls (.int x :: .int i :: .ref (ad k) :: rest)) := by
  refine va_iast S.1 S.2.1 C.1 C.2.2.2.1 (gD C.2.2.1) C.2.2.2.2 k 0 (gL_at hq) rfl (inb_ok hin) hd (fun H1 locs1 hP hD hS => ?_)
  rw [gL_set (M' := sI M k i.toNatClampNeg x) hq (by rw [sI_at]; rfl) sI_off] at hP
  exact kk H1 locs1 ⟨C.1, C.2.1, C.2.2.1, hP, hS⟩
theorem g_last (S : CallFix p m c cc nL s args Ts own) (C : gW sh D cy ad s H0 M H locs) {k n : Nat} {i : Int32} {x : Int64} (hq : sh[k]? = some (2, n)) (hin : inb i n = true) (hd : decode cc pc = .ok (.lastore, 1)) (kk : ∀ (H1 : Heap) (locs1 : List Loc), gW sh D cy ad s H0 (sJ M k i.toNatClampNeg x) H1 locs1 → W p l e R s m args below meth c H1 locs1 cells slots Q (F0 m (pc + 1) ls rest)) : W p l e R s m args below meth c H locs cells slots Q (F0 m pc ls (.long x :: .int i :: .ref (ad k) :: rest)) := by
  refine va_last S.1 S.2.1 C.1 C.2.2.2.1 (gD C.2.2.1) C.2.2.2.2 k 1 (gL_at hq) rfl (inb_ok hin) hd (fun H1 locs1 hP hD hS => ?_)
  rw [gL_set (M' := sJ M k i.toNatClampNeg x) hq (by rw [sJ_at]; rfl) sJ_off] at hP
  exact kk H1 locs1 ⟨C.1, C.2.1, C.2.2.1, hP, hS⟩
/-- behind a call -/
theorem gC_i {st0 : List Value} {a : Array Value} {r : Int32} (C : gW sh D cy ad s H0 M H locs) (hr : va_Run p l e R s m args below meth c H locs cells slots 0 0 (F0 m pc ls st0) rest (gQi sh D cy ad r M' a) (gA sh ad)) (kk : ∀ (H1 : Heap) (locs1 : List Loc), gW sh D cy ad s H0 M' H1 locs1 → W p l e R s m args below meth c H1 locs1 cells slots Q (F0 m (pc + 3) ls (.int r :: rest))) : W p l e R s m args below meth c H locs cells slots Q (F0 m pc ls st0) := by
  refine va_calli hr C.2.2.2.2 (fun _ _ h => h) (fun _ h => h) (fun r' u t H1 locs1 ht hvm hw hB hz hk hS => ?_)
  obtain ⟨rfl, rfl⟩ := hw
  exact kk H1 locs1 ⟨C.1, C.2.1, C.2.2.1, by rw [← ht]; exact hB.2.2.2, hS⟩
theorem gC_l {st0 : List Value} {a : Array Value} {r : Int64} (C : gW sh D cy ad s H0 M H locs) (hr : va_Run p l e R s m args below meth c H locs cells slots 0 0 (F0 m pc ls st0) rest (gQl sh D cy ad r M' a) (gA sh ad)) (kk : ∀ (H1 : Heap) (locs1 : List Loc), gW sh D cy ad s H0 M' H1 locs1 → W p l e R s m args below meth c H1 locs1 cells slots Q (F0 m (pc + 3) ls (.long r :: rest))) : W p l e R s m args below meth c H locs cells slots Q (F0 m pc ls st0) := by
  refine va_calll hr C.2.2.2.2 (fun _ _ h => h) (fun _ h => h) (fun r' u t H1 locs1 ht hvm hw hB hz hk hS => ?_)
  obtain ⟨rfl, rfl⟩ := hw
  exact kk H1 locs1 ⟨C.1, C.2.1, C.2.2.1, by rw [← ht]; exact hB.2.2.2, hS⟩
theorem gC_v {st0 : List Value} {a : Array Value} (C : gW sh D cy ad s H0 M H locs) (hr : va_Run p l e R s m args below meth c H locs cells slots 0 0 (F0 m pc ls st0) rest (gQv sh D cy ad M' a) (gA sh ad)) (kk : ∀ (H1 : Heap) (locs1 : List Loc), gW sh D cy ad s H0 M' H1 locs1 → W p l e R s m args below meth c H1 locs1 cells slots Q (F0 m (pc + 3) ls rest)) : W p l e R s m args below meth c H locs cells slots Q (F0 m pc ls st0) := by
  refine va_callv hr C.2.2.2.2 (fun _ _ h => h) (fun _ h => h) (fun u t H1 locs1 ht hvm hw hB hz hk hS => ?_)
  obtain rfl := hw
  exact kk H1 locs1 ⟨C.1, C.2.1, C.2.2.1, by rw [← ht]; exact hB.2.2.2, hS⟩
section GC
variable {y : MethodName} {bytes : ByteArray} {maxL index f1 n1 f2 n2 : Nat} {ret : Option FieldType} {ws ws' : List Cond} {Qc : Array Value → State → Outcome → State → Prop} {As st0 : List Value}
theorem gRS (n : Nat) (S : CallFix p m c cc nL s args Ts own) (C : gW sh D cy ad s H0 M H locs) (hM : Met l y ws (gR f1 n1) (va_Pc As (gP sh D cy ad M)) Qc 0 0 (gA sh ad)) (hT : GoodIn Ts (va_wsS own index y ws)) (hw : ws = Cond.code y bytes maxL ret :: ws') (hd : y.cls ≠ "java/lang/invoke/MethodHandle" ∧ y.cls ≠ "java/lang/invoke/VarHandle" ∧ (parseMethodDescriptor y.desc).map (fun d => d.parameters.length) = some n) (hR : f1 + 1 ≤ f2 ∧ 8 + (maxL + 11) + n1 ≤ n2)
    (hn : As.length = n) (hsize : ls.size = nL) (hst : st0 = As.reverse ++ rest) (hW : (rest.map fun v => v.category).sum ≤ 8) (hdg : decode cc pc = .ok (.invokestatic index, 3)) : va_Run p l e (gR f2 n2) s m args below meth c H locs 0 0 0 0 (F0 m pc ls st0) rest (Qc As.toArray) (gA sh ad) :=
  va_runS S hM (va_cwS n S.2.2.2.2 hT hw rfl rfl hd hR) ⟨gP_blind, fun U hU hW => ⟨rfl, C.P U hU hW⟩⟩ rfl hn hsize hst (lv_room hW) hdg ⟨Nat.le_refl _, Nat.le_refl _⟩
theorem gRSN {host : String} (n : Nat) (S : CallFix p m c cc nL s args Ts own) (C : gW sh D cy ad s H0 M H locs) (hM : Met l y ws (gR f1 n1) (va_Pc As (gP sh D cy ad M)) Qc 0 0 (gA sh ad)) (hG : GoodIn Ts ws) (hw : ws = Cond.code y bytes maxL ret :: ws') (hN : (own, index, y, host) ∈ gNm) (hini : Cond.initialized y.cls ∈ Ts) (hsta : Cond.static y ∈ Ts) (hd : y.cls ≠ "java/lang/invoke/MethodHandle" ∧ y.cls ≠ "java/lang/invoke/VarHandle" ∧ (parseMethodDescriptor y.desc).map (fun d => d.parameters.length) = some n) (hR : f1 + 1 ≤ f2 ∧ 8 + (maxL + 11) + n1 ≤ n2)
    (hn : As.length = n) (hsize : ls.size = nL) (hst : st0 = As.reverse ++ rest) (hW : (rest.map fun v => v.category).sum ≤ 8) (hdg : decode cc pc = .ok (.invokestatic index, 3)) : va_Run p l e (gR f2 n2) s m args below meth c H locs 0 0 0 0 (F0 m pc ls st0) rest (Qc As.toArray) (gA sh ad) :=
  va_runSN S hM ⟨va_cnB n S.2.2.2.2 hG hw rfl rfl (C.2.1.2 _ hN) (S.2.2.2.2 _ hini) hd hR, S.2.2.2.2 _ hsta, trivial⟩ ⟨gP_blind, fun U hU hW => ⟨rfl, C.P U hU hW⟩⟩ rfl hn hsize hst (lv_room hW) hdg ⟨Nat.le_refl _, Nat.le_refl _⟩
theorem gRV {k ci : Nat} {q : Nat × Nat} {r : vw_C} {fs : List Value} (n : Nat) (S : CallFix p m c cc nL s args Ts own) (C : gW sh D cy ad s H0 M H locs) (hM : Met l y ws (gR f1 n1) (va_Pc (.ref (ad k) :: As) (gP sh D cy ad M)) Qc 0 0 (gA sh ad)) (hT : GoodIn Ts (wsV own index r.1 y ws)) (hw : ws = Cond.code y bytes maxL ret :: ws') (hd : y.cls = r.1 ∧ y.cls ≠ "java/lang/invoke/MethodHandle" ∧ y.cls ≠ "java/lang/invoke/VarHandle" ∧ (parseMethodDescriptor y.desc).map (fun d => d.parameters.length) = some n) (hR : f1 + 1 ≤ f2 ∧ 8 + (maxL + 11) + n1 ≤ n2)
    (hq : sh[k]? = some q) (he : gE cy q k ad (M.1 k) (M.2 k) = .inr (ci, fs)) (hc : vwCl[ci]? = some r) (hn : As.length = n) (hsize : ls.size = nL) (hst : st0 = As.reverse ++ .ref (ad k) :: rest) (hW : (rest.map fun v => v.category).sum ≤ 8) (hdg : decode cc pc = .ok (.invokevirtual index, 3)) : va_Run p l e (gR f2 n2) s m args below meth c H locs 0 0 0 0 (F0 m pc ls st0) rest (Qc (Value.ref (ad k) :: As).toArray) (gA sh ad) :=
  va_runV S hM (cwV n S.2.2.2.2 hT hw rfl rfl hd hR) ⟨gP_blind, va_recv C.1 C.2.2.2.1 hc (by rw [gL_at hq, he]), fun U hU hW => ⟨rfl, C.P U hU hW⟩⟩ rfl hn hsize hst (lv_room hW) hdg ⟨Nat.le_refl _, Nat.le_refl _⟩
end GC
end GB
def shC : gSh := [(10, 0), (3, 6), (4, 0), (1, 64), (1, 64), (1, 64), (4, 0), (1, 64), (1, 64), (1, 64), (4, 0), (1, 64), (1, 64), (1, 64), (4, 0), (1, 64), (1, 64), (1, 64), (4, 0), (1, 64), (1, 64), (1, 64), (4, 0), (1, 64), (1, 64), (1, 64), (4, 0), (1, 128), (1, 128), (1, 128), (4, 0), (1, 65), (1, 65), (1, 65), (5, 0), (1, 256), (1, 256), (1, 256), (1, 256), (1, 256), (1, 256), (6, 0), (2, 129), (1, 129), (1, 33), (6, 0), (2, 129), (1, 129), (1, 33), (7, 0), (8, 0), (2, 62), (1, 62), (9, 0), (4, 0), (1, 64), (1, 64), (1, 64), (4, 0), (1, 64), (1, 64), (1, 64), (4, 0), (1, 64), (1, 64), (1, 64), (1, 33)]
def shR : gSh := [(11, 0), (1, 6), (2, 384), (1, 384), (1, 384), (2, 600), (1, 600), (1, 33), (2, 19800), (1, 19800), (2, 600), (1, 600), (2, 1200), (1, 1200), (2, 64), (1, 64), (1, 64), (2, 64), (1, 64), (1, 128), (2, 128), (1, 128), (1, 128), (2, 64), (1, 64), (1, 64), (2, 2200), (1, 2200)]
theorem shC_0 : shC[0]? = some (10, 0) := rfl
theorem shC_1 : shC[1]? = some (3, 6) := rfl
theorem shC_2 : shC[2]? = some (4, 0) := rfl
theorem shC_3 : shC[3]? = some (1, 64) := rfl
theorem shC_4 : shC[4]? = some (1, 64) := rfl
theorem shC_5 : shC[5]? = some (1, 64) := rfl
theorem shC_6 : shC[6]? = some (4, 0) := rfl
theorem shC_7 : shC[7]? = some (1, 64) := rfl
theorem shC_8 : shC[8]? = some (1, 64) := rfl
theorem shC_9 : shC[9]? = some (1, 64) := rfl
theorem shC_10 : shC[10]? = some (4, 0) := rfl
theorem shC_11 : shC[11]? = some (1, 64) := rfl
theorem shC_12 : shC[12]? = some (1, 64) := rfl
theorem shC_13 : shC[13]? = some (1, 64) := rfl
theorem shC_14 : shC[14]? = some (4, 0) := rfl
theorem shC_15 : shC[15]? = some (1, 64) := rfl
theorem shC_16 : shC[16]? = some (1, 64) := rfl
theorem shC_17 : shC[17]? = some (1, 64) := rfl
theorem shC_18 : shC[18]? = some (4, 0) := rfl
theorem shC_19 : shC[19]? = some (1, 64) := rfl
theorem shC_20 : shC[20]? = some (1, 64) := rfl
theorem shC_21 : shC[21]? = some (1, 64) := rfl
theorem shC_22 : shC[22]? = some (4, 0) := rfl
theorem shC_23 : shC[23]? = some (1, 64) := rfl
theorem shC_24 : shC[24]? = some (1, 64) := rfl
theorem shC_25 : shC[25]? = some (1, 64) := rfl
theorem shC_26 : shC[26]? = some (4, 0) := rfl
theorem shC_27 : shC[27]? = some (1, 128) := rfl
theorem shC_28 : shC[28]? = some (1, 128) := rfl
theorem shC_29 : shC[29]? = some (1, 128) := rfl
theorem shC_30 : shC[30]? = some (4, 0) := rfl
theorem shC_31 : shC[31]? = some (1, 65) := rfl
theorem shC_32 : shC[32]? = some (1, 65) := rfl
theorem shC_33 : shC[33]? = some (1, 65) := rfl
theorem shC_34 : shC[34]? = some (5, 0) := rfl
theorem shC_35 : shC[35]? = some (1, 256) := rfl
theorem shC_36 : shC[36]? = some (1, 256) := rfl
theorem shC_37 : shC[37]? = some (1, 256) := rfl
theorem shC_38 : shC[38]? = some (1, 256) := rfl
theorem shC_39 : shC[39]? = some (1, 256) := rfl
theorem shC_40 : shC[40]? = some (1, 256) := rfl
theorem shC_41 : shC[41]? = some (6, 0) := rfl
theorem shC_42 : shC[42]? = some (2, 129) := rfl
theorem shC_43 : shC[43]? = some (1, 129) := rfl
theorem shC_44 : shC[44]? = some (1, 33) := rfl
theorem shC_45 : shC[45]? = some (6, 0) := rfl
theorem shC_46 : shC[46]? = some (2, 129) := rfl
theorem shC_47 : shC[47]? = some (1, 129) := rfl
theorem shC_48 : shC[48]? = some (1, 33) := rfl
theorem shC_49 : shC[49]? = some (7, 0) := rfl
theorem shC_50 : shC[50]? = some (8, 0) := rfl
theorem shC_51 : shC[51]? = some (2, 62) := rfl
theorem shC_52 : shC[52]? = some (1, 62) := rfl
theorem shC_53 : shC[53]? = some (9, 0) := rfl
theorem shC_54 : shC[54]? = some (4, 0) := rfl
theorem shC_55 : shC[55]? = some (1, 64) := rfl
theorem shC_56 : shC[56]? = some (1, 64) := rfl
theorem shC_57 : shC[57]? = some (1, 64) := rfl
theorem shC_58 : shC[58]? = some (4, 0) := rfl
theorem shC_59 : shC[59]? = some (1, 64) := rfl
theorem shC_60 : shC[60]? = some (1, 64) := rfl
theorem shC_61 : shC[61]? = some (1, 64) := rfl
theorem shC_62 : shC[62]? = some (4, 0) := rfl
theorem shC_63 : shC[63]? = some (1, 64) := rfl
theorem shC_64 : shC[64]? = some (1, 64) := rfl
theorem shC_65 : shC[65]? = some (1, 64) := rfl
theorem shC_66 : shC[66]? = some (1, 33) := rfl
theorem shR_0 : shR[0]? = some (11, 0) := rfl
theorem shR_1 : shR[1]? = some (1, 6) := rfl
theorem shR_2 : shR[2]? = some (2, 384) := rfl
theorem shR_3 : shR[3]? = some (1, 384) := rfl
theorem shR_4 : shR[4]? = some (1, 384) := rfl
theorem shR_5 : shR[5]? = some (2, 600) := rfl
theorem shR_6 : shR[6]? = some (1, 600) := rfl
theorem shR_7 : shR[7]? = some (1, 33) := rfl
theorem shR_8 : shR[8]? = some (2, 19800) := rfl
theorem shR_9 : shR[9]? = some (1, 19800) := rfl
theorem shR_10 : shR[10]? = some (2, 600) := rfl
theorem shR_11 : shR[11]? = some (1, 600) := rfl
theorem shR_12 : shR[12]? = some (2, 1200) := rfl
theorem shR_13 : shR[13]? = some (1, 1200) := rfl
theorem shR_14 : shR[14]? = some (2, 64) := rfl
theorem shR_15 : shR[15]? = some (1, 64) := rfl
theorem shR_16 : shR[16]? = some (1, 64) := rfl
theorem shR_17 : shR[17]? = some (2, 64) := rfl
theorem shR_18 : shR[18]? = some (1, 64) := rfl
theorem shR_19 : shR[19]? = some (1, 128) := rfl
theorem shR_20 : shR[20]? = some (2, 128) := rfl
theorem shR_21 : shR[21]? = some (1, 128) := rfl
theorem shR_22 : shR[22]? = some (1, 128) := rfl
theorem shR_23 : shR[23]? = some (2, 64) := rfl
theorem shR_24 : shR[24]? = some (1, 64) := rfl
theorem shR_25 : shR[25]? = some (1, 64) := rfl
theorem shR_26 : shR[26]? = some (2, 2200) := rfl
theorem shR_27 : shR[27]? = some (1, 2200) := rfl
def lnOf (k : Nat) : Nat := (shC.getD (k + 1) (0, 0)).2
abbrev isL (k : Nat) : Prop := shC[k]? = some (4, 0) ∧ shC[k + 1]? = some (1, lnOf k) ∧ shC[k + 2]? = some (1, lnOf k) ∧ shC[k + 3]? = some (1, lnOf k)
abbrev isS (k : Nat) : Prop := shC[k]? = some (6, 0) ∧ shC[k + 1]? = some (2, 129) ∧ shC[k + 2]? = some (1, 129) ∧ shC[k + 3]? = some (1, 33)
theorem isL_2 : isL 2 := ⟨rfl, rfl, rfl, rfl⟩
theorem isL_6 : isL 6 := ⟨rfl, rfl, rfl, rfl⟩
theorem isL_10 : isL 10 := ⟨rfl, rfl, rfl, rfl⟩
theorem isL_14 : isL 14 := ⟨rfl, rfl, rfl, rfl⟩
theorem isL_18 : isL 18 := ⟨rfl, rfl, rfl, rfl⟩
theorem isL_22 : isL 22 := ⟨rfl, rfl, rfl, rfl⟩
theorem isL_26 : isL 26 := ⟨rfl, rfl, rfl, rfl⟩
theorem isL_30 : isL 30 := ⟨rfl, rfl, rfl, rfl⟩
theorem isS_41 : isS 41 := ⟨rfl, rfl, rfl, rfl⟩
theorem isS_45 : isS 45 := ⟨rfl, rfl, rfl, rfl⟩
theorem isL_54 : isL 54 := ⟨rfl, rfl, rfl, rfl⟩
theorem isL_58 : isL 58 := ⟨rfl, rfl, rfl, rfl⟩
theorem isL_62 : isL 62 := ⟨rfl, rfl, rfl, rfl⟩
theorem isL_book {i : Int32} (h : inb i 6 = true) : isL (2 + 4 * i.toNatClampNeg) := by
  have h1 := inb_ok h
  have h2 : i.toNatClampNeg < 6 := Nat.not_le.mp fun q => h1 (Or.inr q)
  generalize i.toNatClampNeg = n at h2
  rcases (show n = 0 ∨ n = 1 ∨ n = 2 ∨ n = 3 ∨ n = 4 ∨ n = 5 by omega) with rfl | rfl | rfl | rfl | rfl | rfl
  · exact isL_2
  · exact isL_6
  · exact isL_10
  · exact isL_14
  · exact isL_18
  · exact isL_22
end
section
theorem kmX7_mask_210l : Cond.methodLink RX7 210 Lib.Math.min.name ∈ wsX7_mask := by decide +kernel
theorem kmX7_mask_210s : Cond.static Lib.Math.min.name ∈ wsX7_mask := by decide +kernel
theorem kmX7_mask_210i : Cond.initialized "java/lang/Math" ∈ wsX7_mask := by decide +kernel
theorem kmX7_mask_210c : Cond.code Lib.Math.min.name Lib.Math.min.code 2 (some .int) ∈ wsX7_mask := by decide +kernel
theorem kcX7_bitAt_217 : Cond.constant RX7 217 (-2147483648 : Int32) ∈ wsX7_bitAt := by decide +kernel
theorem kcX7_wide_218 : Cond.constantLong RX7 218 (4294967295 : Int64) ∈ wsX7_wide := by decide +kernel
def mX7_isBook (x0 : Int32) : Option Int32 := if x0 < 0 then (some (0 : Int32)) else (if (6 : Int32) ≤ x0 then (some (0 : Int32)) else (some (1 : Int32)))
def mX7_isGoal (x0 : Int32) : Option Int32 := if x0 < 0 then (some (0 : Int32)) else (if (16 : Int32) < x0 then (some (0 : Int32)) else (some (1 : Int32)))
def mX7_mask (x0 : Int32) : Option Int32 := if 0 < x0 then (some ((-1 : Int32) <<< (((32 : Int32) - (if (32 : Int32) < x0 then (32 : Int32) else x0)) &&& 31))) else (some (0 : Int32))
def mX7_isBeginning (x0 : Int32) (x1 : Int32) : Option Int32 := if x1 < 0 then (some (0 : Int32)) else (if (32 : Int32) < x1 then (some (0 : Int32)) else ((mX7_mask x1).bind fun r3 => if (x0 &&& (r3 ^^^ (-1 : Int32))) = 0 then (some (1 : Int32)) else (some (0 : Int32))))
def mX7_begins (x0 : Int32) (x1 : Int32) (x2 : Int32) : Option Int32 := (mX7_mask x2).bind fun r1 => if (x0 &&& r1) = x1 then (some (1 : Int32)) else (some (0 : Int32))
def mX7_bitAt (x0 : Int32) : Option Int32 := some (ush (-2147483648 : Int32) x0)
def mX7_wide (x0 : Int32) : Option Int64 := some ((x0.toInt64) &&& (4294967295 : Int64))
set_option maxHeartbeats 4000000 in
set_option maxRecDepth 100000 in
theorem c_X7_isBook (l : Launch) (D : va_G) (cy : gCy) (ad : Nat → Nat) (M : gMem) (x0 : Int32) (r0 : Int32) (hm : mX7_isBook x0 = some r0) : Met l yX7_isBook wsX7_isBook (gR 0 0) (va_Pc [.int x0] (gP shC D cy ad M)) (gQi shC D cy ad r0 M) 0 0 (gA shC ad) := by
  refine gEnter (cc := cX7_isBook) (maxL := 1) (ret := (some .boolean)) (by decide) rfl (Nat.le_of_ble_eq_true rfl) ?_
  intro p e s m below meth c ls S hr hlk C hl
  have S : CallFix p m c cX7_isBook 1 s _ wsX7_isBook RX7 := S
  have hl : lv_has ls 1 [(0, .int x0)] := hl
  rw [mX7_isBook] at hm
  refine lv_iload_n S.1 S.2.1 dX7_isBook_0 rfl (lv_at hl 0 rfl) ?_
  refine lv_if_lt (tgt := 14) S.1 S.2.1 dX7_isBook_1 (by decide) (fun c1 => ?_) (fun c1 => ?_)
  · rw [if_pos c1] at hm
    refine lv_iconst (v := (0 : Int32)) S.1 S.2.1 dX7_isBook_14 (by decide) ?_
    exact gRetz S hr hlk C rfl (Option.some.inj hm) rfl dX7_isBook_15
  · rw [if_neg c1] at hm
    refine lv_iload_n S.1 S.2.1 dX7_isBook_4 rfl (lv_at hl 0 rfl) ?_
    refine lv_bipush (v := (6 : Int32)) S.1 S.2.1 dX7_isBook_5 (by decide) ?_
    refine lv_icmp_ge (tgt := 14) S.1 S.2.1 dX7_isBook_7 (by decide) (fun c2 => ?_) (fun c2 => ?_)
    · rw [if_pos c2] at hm
      refine lv_iconst (v := (0 : Int32)) S.1 S.2.1 dX7_isBook_14 (by decide) ?_
      exact gRetz S hr hlk C rfl (Option.some.inj hm) rfl dX7_isBook_15
    · rw [if_neg c2] at hm
      refine lv_iconst (v := (1 : Int32)) S.1 S.2.1 dX7_isBook_10 (by decide) ?_
      refine lv_goto (tgt := 15) S.1 S.2.1 dX7_isBook_11 (by decide) ?_
      exact gRetz S hr hlk C rfl (Option.some.inj hm) rfl dX7_isBook_15
set_option maxHeartbeats 4000000 in
set_option maxRecDepth 100000 in
theorem c_X7_isGoal (l : Launch) (D : va_G) (cy : gCy) (ad : Nat → Nat) (M : gMem) (x0 : Int32) (r0 : Int32) (hm : mX7_isGoal x0 = some r0) : Met l yX7_isGoal wsX7_isGoal (gR 0 0) (va_Pc [.int x0] (gP shC D cy ad M)) (gQi shC D cy ad r0 M) 0 0 (gA shC ad) := by
  refine gEnter (cc := cX7_isGoal) (maxL := 1) (ret := (some .boolean)) (by decide) rfl (Nat.le_of_ble_eq_true rfl) ?_
  intro p e s m below meth c ls S hr hlk C hl
  have S : CallFix p m c cX7_isGoal 1 s _ wsX7_isGoal RX7 := S
  have hl : lv_has ls 1 [(0, .int x0)] := hl
  rw [mX7_isGoal] at hm
  refine lv_iload_n S.1 S.2.1 dX7_isGoal_0 rfl (lv_at hl 0 rfl) ?_
  refine lv_if_lt (tgt := 14) S.1 S.2.1 dX7_isGoal_1 (by decide) (fun c1 => ?_) (fun c1 => ?_)
  · rw [if_pos c1] at hm
    refine lv_iconst (v := (0 : Int32)) S.1 S.2.1 dX7_isGoal_14 (by decide) ?_
    exact gRetz S hr hlk C rfl (Option.some.inj hm) rfl dX7_isGoal_15
  · rw [if_neg c1] at hm
    refine lv_iload_n S.1 S.2.1 dX7_isGoal_4 rfl (lv_at hl 0 rfl) ?_
    refine lv_bipush (v := (16 : Int32)) S.1 S.2.1 dX7_isGoal_5 (by decide) ?_
    refine lv_icmp_gt (tgt := 14) S.1 S.2.1 dX7_isGoal_7 (by decide) (fun c2 => ?_) (fun c2 => ?_)
    · rw [if_pos c2] at hm
      refine lv_iconst (v := (0 : Int32)) S.1 S.2.1 dX7_isGoal_14 (by decide) ?_
      exact gRetz S hr hlk C rfl (Option.some.inj hm) rfl dX7_isGoal_15
    · rw [if_neg c2] at hm
      refine lv_iconst (v := (1 : Int32)) S.1 S.2.1 dX7_isGoal_10 (by decide) ?_
      refine lv_goto (tgt := 15) S.1 S.2.1 dX7_isGoal_11 (by decide) ?_
      exact gRetz S hr hlk C rfl (Option.some.inj hm) rfl dX7_isGoal_15
set_option maxHeartbeats 4000000 in
set_option maxRecDepth 100000 in
theorem c_X7_mask (l : Launch) (D : va_G) (cy : gCy) (ad : Nat → Nat) (M : gMem) (x0 : Int32) (r0 : Int32) (hm : mX7_mask x0 = some r0) : Met l yX7_mask wsX7_mask (gR 1 23) (va_Pc [.int x0] (gP shC D cy ad M)) (gQi shC D cy ad r0 M) 0 0 (gA shC ad) := by
  refine gEnter (cc := cX7_mask) (maxL := 1) (ret := (some .int)) (by decide) rfl (Nat.le_of_ble_eq_true rfl) ?_
  intro p e s m below meth c ls S hr hlk C hl
  have S : CallFix p m c cX7_mask 1 s _ wsX7_mask RX7 := S
  have hl : lv_has ls 1 [(0, .int x0)] := hl
  rw [mX7_mask] at hm
  refine lv_iload_n S.1 S.2.1 dX7_mask_0 rfl (lv_at hl 0 rfl) ?_
  refine lv_if_gt (tgt := 8) S.1 S.2.1 dX7_mask_1 (by decide) (fun c1 => ?_) (fun c1 => ?_)
  · rw [if_pos c1] at hm
    refine lv_iconst (v := (-1 : Int32)) S.1 S.2.1 dX7_mask_8 (by decide) ?_
    refine lv_bipush (v := (32 : Int32)) S.1 S.2.1 dX7_mask_9 (by decide) ?_
    refine lv_iload_n S.1 S.2.1 dX7_mask_11 rfl (lv_at hl 0 rfl) ?_
    refine lv_bipush (v := (32 : Int32)) S.1 S.2.1 dX7_mask_12 (by decide) ?_
    refine va_mmin S.1 S.2.1 (S.2.2.1.trans hl.1.symm) S.2.2.2.1 (S.2.2.2.2 _ kmX7_mask_210l) (S.2.2.2.2 _ kmX7_mask_210s) (S.2.2.2.2 _ kmX7_mask_210i) (S.2.2.2.2 _ kmX7_mask_210c) (rest := [.int (32 : Int32), .int (-1 : Int32)]) (Nat.le_of_ble_eq_true rfl) (Nat.le_of_ble_eq_true rfl) (Nat.le_refl _) (Nat.le_refl _) dX7_mask_14 ?_
    refine lv_isub S.1 S.2.1 dX7_mask_17 ?_
    refine lv_ishl S.1 S.2.1 dX7_mask_18 ?_
    exact gReti S hr hlk C (Option.some.inj hm) rfl dX7_mask_19
  · rw [if_neg c1] at hm
    refine lv_iconst (v := (0 : Int32)) S.1 S.2.1 dX7_mask_4 (by decide) ?_
    refine lv_goto (tgt := 19) S.1 S.2.1 dX7_mask_5 (by decide) ?_
    exact gReti S hr hlk C (Option.some.inj hm) rfl dX7_mask_19
set_option maxHeartbeats 4000000 in
set_option maxRecDepth 100000 in
theorem c_X7_isBeginning (l : Launch) (D : va_G) (cy : gCy) (ad : Nat → Nat) (M : gMem) (x0 : Int32) (x1 : Int32) (r0 : Int32) (hm : mX7_isBeginning x0 x1 = some r0) : Met l yX7_isBeginning wsX7_isBeginning (gR 2 43) (va_Pc [.int x0, .int x1] (gP shC D cy ad M)) (gQi shC D cy ad r0 M) 0 0 (gA shC ad) := by
  refine gEnter (cc := cX7_isBeginning) (maxL := 2) (ret := (some .boolean)) (by decide) rfl (Nat.le_of_ble_eq_true rfl) ?_
  intro p e s m below meth c ls S hr hlk C hl
  have S : CallFix p m c cX7_isBeginning 2 s _ wsX7_isBeginning RX7 := S
  have hl : lv_has ls 2 [(0, .int x0), (1, .int x1)] := hl
  rw [mX7_isBeginning] at hm
  refine lv_iload_n S.1 S.2.1 dX7_isBeginning_0 rfl (lv_at hl 1 rfl) ?_
  refine lv_if_lt (tgt := 25) S.1 S.2.1 dX7_isBeginning_1 (by decide) (fun c1 => ?_) (fun c1 => ?_)
  · rw [if_pos c1] at hm
    refine lv_iconst (v := (0 : Int32)) S.1 S.2.1 dX7_isBeginning_25 (by decide) ?_
    exact gRetz S hr hlk C rfl (Option.some.inj hm) rfl dX7_isBeginning_26
  · rw [if_neg c1] at hm
    refine lv_iload_n S.1 S.2.1 dX7_isBeginning_4 rfl (lv_at hl 1 rfl) ?_
    refine lv_bipush (v := (32 : Int32)) S.1 S.2.1 dX7_isBeginning_5 (by decide) ?_
    refine lv_icmp_gt (tgt := 25) S.1 S.2.1 dX7_isBeginning_7 (by decide) (fun c2 => ?_) (fun c2 => ?_)
    · rw [if_pos c2] at hm
      refine lv_iconst (v := (0 : Int32)) S.1 S.2.1 dX7_isBeginning_25 (by decide) ?_
      exact gRetz S hr hlk C rfl (Option.some.inj hm) rfl dX7_isBeginning_26
    · rw [if_neg c2] at hm
      refine lv_iload_n S.1 S.2.1 dX7_isBeginning_10 rfl (lv_at hl 0 rfl) ?_
      refine lv_iload_n S.1 S.2.1 dX7_isBeginning_11 rfl (lv_at hl 1 rfl) ?_
      obtain ⟨r3, hcr3, hm⟩ := bd_ok hm
      refine gC_i C (gRS (As := [.int x1]) (rest := [.int x0]) 1 S C (c_X7_mask l D cy ad M x1 r3 hcr3) gX7_isBeginning_X7_mask rfl (by decide +kernel) (by decide) rfl hl.1 rfl (Nat.le_of_ble_eq_true rfl) dX7_isBeginning_12) (fun H locs C => ?_)
      refine lv_iconst (v := (-1 : Int32)) S.1 S.2.1 dX7_isBeginning_15 (by decide) ?_
      refine lv_ixor S.1 S.2.1 dX7_isBeginning_16 ?_
      refine lv_iand S.1 S.2.1 dX7_isBeginning_17 ?_
      refine lv_if_ne (tgt := 25) S.1 S.2.1 dX7_isBeginning_18 (by decide) (fun c4 => ?_) (fun c4 => ?_)
      · rw [if_neg c4] at hm
        refine lv_iconst (v := (0 : Int32)) S.1 S.2.1 dX7_isBeginning_25 (by decide) ?_
        exact gRetz S hr hlk C rfl (Option.some.inj hm) rfl dX7_isBeginning_26
      · rw [if_pos c4] at hm
        refine lv_iconst (v := (1 : Int32)) S.1 S.2.1 dX7_isBeginning_21 (by decide) ?_
        refine lv_goto (tgt := 26) S.1 S.2.1 dX7_isBeginning_22 (by decide) ?_
        exact gRetz S hr hlk C rfl (Option.some.inj hm) rfl dX7_isBeginning_26
set_option maxHeartbeats 4000000 in
set_option maxRecDepth 100000 in
theorem c_X7_begins (l : Launch) (D : va_G) (cy : gCy) (ad : Nat → Nat) (M : gMem) (x0 : Int32) (x1 : Int32) (x2 : Int32) (r0 : Int32) (hm : mX7_begins x0 x1 x2 = some r0) : Met l yX7_begins wsX7_begins (gR 2 43) (va_Pc [.int x0, .int x1, .int x2] (gP shC D cy ad M)) (gQi shC D cy ad r0 M) 0 0 (gA shC ad) := by
  refine gEnter (cc := cX7_begins) (maxL := 3) (ret := (some .boolean)) (by decide) rfl (Nat.le_of_ble_eq_true rfl) ?_
  intro p e s m below meth c ls S hr hlk C hl
  have S : CallFix p m c cX7_begins 3 s _ wsX7_begins RX7 := S
  have hl : lv_has ls 3 [(0, .int x0), (1, .int x1), (2, .int x2)] := hl
  rw [mX7_begins] at hm
  refine lv_iload_n S.1 S.2.1 dX7_begins_0 rfl (lv_at hl 0 rfl) ?_
  refine lv_iload_n S.1 S.2.1 dX7_begins_1 rfl (lv_at hl 2 rfl) ?_
  obtain ⟨r1, hcr1, hm⟩ := bd_ok hm
  refine gC_i C (gRS (As := [.int x2]) (rest := [.int x0]) 1 S C (c_X7_mask l D cy ad M x2 r1 hcr1) gX7_begins_X7_mask rfl (by decide +kernel) (by decide) rfl hl.1 rfl (Nat.le_of_ble_eq_true rfl) dX7_begins_2) (fun H locs C => ?_)
  refine lv_iand S.1 S.2.1 dX7_begins_5 ?_
  refine lv_iload_n S.1 S.2.1 dX7_begins_6 rfl (lv_at hl 1 rfl) ?_
  refine lv_icmp_ne (tgt := 14) S.1 S.2.1 dX7_begins_7 (by decide) (fun c2 => ?_) (fun c2 => ?_)
  · rw [if_neg c2] at hm
    refine lv_iconst (v := (0 : Int32)) S.1 S.2.1 dX7_begins_14 (by decide) ?_
    exact gRetz S hr hlk C rfl (Option.some.inj hm) rfl dX7_begins_15
  · rw [if_pos c2] at hm
    refine lv_iconst (v := (1 : Int32)) S.1 S.2.1 dX7_begins_10 (by decide) ?_
    refine lv_goto (tgt := 15) S.1 S.2.1 dX7_begins_11 (by decide) ?_
    exact gRetz S hr hlk C rfl (Option.some.inj hm) rfl dX7_begins_15
set_option maxHeartbeats 4000000 in
set_option maxRecDepth 100000 in
theorem c_X7_bitAt (l : Launch) (D : va_G) (cy : gCy) (ad : Nat → Nat) (M : gMem) (x0 : Int32) (r0 : Int32) (hm : mX7_bitAt x0 = some r0) : Met l yX7_bitAt wsX7_bitAt (gR 0 0) (va_Pc [.int x0] (gP shC D cy ad M)) (gQi shC D cy ad r0 M) 0 0 (gA shC ad) := by
  refine gEnter (cc := cX7_bitAt) (maxL := 1) (ret := (some .int)) (by decide) rfl (Nat.le_of_ble_eq_true rfl) ?_
  intro p e s m below meth c ls S hr hlk C hl
  have S : CallFix p m c cX7_bitAt 1 s _ wsX7_bitAt RX7 := S
  have hl : lv_has ls 1 [(0, .int x0)] := hl
  rw [mX7_bitAt] at hm
  refine lv_ldc (v := (-2147483648 : Int32)) S.1 S.2.1 S.2.2.2.1 (S.2.2.2.2 _ kcX7_bitAt_217) dX7_bitAt_0 ?_
  refine lv_iload_n S.1 S.2.1 dX7_bitAt_2 rfl (lv_at hl 0 rfl) ?_
  refine lv_iushr (v := (ush (-2147483648 : Int32) x0)) S.1 S.2.1 dX7_bitAt_3 rfl ?_
  exact gReti S hr hlk C (Option.some.inj hm) rfl dX7_bitAt_4
set_option maxHeartbeats 4000000 in
set_option maxRecDepth 100000 in
theorem c_X7_wide (l : Launch) (D : va_G) (cy : gCy) (ad : Nat → Nat) (M : gMem) (x0 : Int32) (r0 : Int64) (hm : mX7_wide x0 = some r0) : Met l yX7_wide wsX7_wide (gR 0 0) (va_Pc [.int x0] (gP shC D cy ad M)) (gQl shC D cy ad r0 M) 0 0 (gA shC ad) := by
  refine gEnter (cc := cX7_wide) (maxL := 1) (ret := (some .long)) (by decide) rfl (Nat.le_of_ble_eq_true rfl) ?_
  intro p e s m below meth c ls S hr hlk C hl
  have S : CallFix p m c cX7_wide 1 s _ wsX7_wide RX7 := S
  have hl : lv_has ls 1 [(0, .int x0)] := hl
  rw [mX7_wide] at hm
  refine lv_iload_n S.1 S.2.1 dX7_wide_0 rfl (lv_at hl 0 rfl) ?_
  refine lv_i2l (v := x0.toInt64) S.1 S.2.1 dX7_wide_1 rfl ?_
  refine lv_ldc2 (v := (4294967295 : Int64)) S.1 S.2.1 S.2.2.2.1 (S.2.2.2.2 _ kcX7_wide_218) dX7_wide_2 ?_
  refine lv_land S.1 S.2.1 dX7_wide_5 ?_
  exact gRetl S hr hlk C (Option.some.inj hm) rfl dX7_wide_6
end
section
theorem kiX2_first_X2 : ∀ w ∈ wsX20, w ∈ wsX2_first := by decide +kernel
theorem kfX2_first_21 : Cond.fieldLink RX2 21 "PrefixLeader$Lines" "address" "[I" ∈ wsX2_first := by decide +kernel
theorem knX2_first_X7_widei : Cond.initialized yX7_wide.cls ∈ wsX2_first := by decide +kernel
theorem knX2_first_X7_wides : Cond.static yX7_wide ∈ wsX2_first := by decide +kernel
theorem kiX2_last_X2 : ∀ w ∈ wsX20, w ∈ wsX2_last := by decide +kernel
theorem kfX2_last_21 : Cond.fieldLink RX2 21 "PrefixLeader$Lines" "address" "[I" ∈ wsX2_last := by decide +kernel
theorem kfX2_last_25 : Cond.fieldLink RX2 25 "PrefixLeader$Lines" "bits" "[I" ∈ wsX2_last := by decide +kernel
theorem knX2_last_X7_maski : Cond.initialized yX7_mask.cls ∈ wsX2_last := by decide +kernel
theorem knX2_last_X7_masks : Cond.static yX7_mask ∈ wsX2_last := by decide +kernel
theorem knX2_last_X7_widei : Cond.initialized yX7_wide.cls ∈ wsX2_last := by decide +kernel
theorem knX2_last_X7_wides : Cond.static yX7_wide ∈ wsX2_last := by decide +kernel
theorem kiX2_isAt_X2 : ∀ w ∈ wsX20, w ∈ wsX2_isAt := by decide +kernel
theorem kfX2_isAt_39 : Cond.fieldLink RX2 39 "PrefixLeader$Lines" "size" "I" ∈ wsX2_isAt := by decide +kernel
theorem kfX2_isAt_21 : Cond.fieldLink RX2 21 "PrefixLeader$Lines" "address" "[I" ∈ wsX2_isAt := by decide +kernel
theorem kfX2_isAt_25 : Cond.fieldLink RX2 25 "PrefixLeader$Lines" "bits" "[I" ∈ wsX2_isAt := by decide +kernel
theorem kiX2_isAhead_X2 : ∀ w ∈ wsX20, w ∈ wsX2_isAhead := by decide +kernel
theorem kfX2_isAhead_21 : Cond.fieldLink RX2 21 "PrefixLeader$Lines" "address" "[I" ∈ wsX2_isAhead := by decide +kernel
theorem knX2_isAhead_X7_widei : Cond.initialized yX7_wide.cls ∈ wsX2_isAhead := by decide +kernel
theorem knX2_isAhead_X7_wides : Cond.static yX7_wide ∈ wsX2_isAhead := by decide +kernel
theorem kfX2_isAhead_25 : Cond.fieldLink RX2 25 "PrefixLeader$Lines" "bits" "[I" ∈ wsX2_isAhead := by decide +kernel
theorem kiX2_placeOf_X2 : ∀ w ∈ wsX20, w ∈ wsX2_placeOf := by decide +kernel
theorem kfX2_placeOf_39 : Cond.fieldLink RX2 39 "PrefixLeader$Lines" "size" "I" ∈ wsX2_placeOf := by decide +kernel
theorem kiX2_hasLine_X2 : ∀ w ∈ wsX20, w ∈ wsX2_hasLine := by decide +kernel
theorem kfX2_hasLine_28 : Cond.fieldLink RX2 28 "PrefixLeader$Lines" "goal" "[I" ∈ wsX2_hasLine := by decide +kernel
theorem kmX2_endOf_9l : Cond.methodLink RX2 9 Lib.Math.max.name ∈ wsX2_endOf := by decide +kernel
theorem kmX2_endOf_9s : Cond.static Lib.Math.max.name ∈ wsX2_endOf := by decide +kernel
theorem kmX2_endOf_9i : Cond.initialized "java/lang/Math" ∈ wsX2_endOf := by decide +kernel
theorem kmX2_endOf_9c : Cond.code Lib.Math.max.name Lib.Math.max.code 2 (some .int) ∈ wsX2_endOf := by decide +kernel
theorem kiX2_endOf_X2 : ∀ w ∈ wsX20, w ∈ wsX2_endOf := by decide +kernel
theorem kfX2_endOf_39 : Cond.fieldLink RX2 39 "PrefixLeader$Lines" "size" "I" ∈ wsX2_endOf := by decide +kernel
theorem kfX2_endOf_21 : Cond.fieldLink RX2 21 "PrefixLeader$Lines" "address" "[I" ∈ wsX2_endOf := by decide +kernel
theorem knX2_endOf_X7_beginsi : Cond.initialized yX7_begins.cls ∈ wsX2_endOf := by decide +kernel
theorem knX2_endOf_X7_beginss : Cond.static yX7_begins ∈ wsX2_endOf := by decide +kernel
theorem kiX2_lastHolder_X2 : ∀ w ∈ wsX20, w ∈ wsX2_lastHolder := by decide +kernel
theorem kfX2_lastHolder_39 : Cond.fieldLink RX2 39 "PrefixLeader$Lines" "size" "I" ∈ wsX2_lastHolder := by decide +kernel
theorem kmX2_lastHolder_55l : Cond.methodLink RX2 55 Lib.Math.min.name ∈ wsX2_lastHolder := by decide +kernel
theorem kmX2_lastHolder_55s : Cond.static Lib.Math.min.name ∈ wsX2_lastHolder := by decide +kernel
theorem kmX2_lastHolder_55i : Cond.initialized "java/lang/Math" ∈ wsX2_lastHolder := by decide +kernel
theorem kmX2_lastHolder_55c : Cond.code Lib.Math.min.name Lib.Math.min.code 2 (some .int) ∈ wsX2_lastHolder := by decide +kernel
theorem kfX2_lastHolder_21 : Cond.fieldLink RX2 21 "PrefixLeader$Lines" "address" "[I" ∈ wsX2_lastHolder := by decide +kernel
theorem kfX2_lastHolder_25 : Cond.fieldLink RX2 25 "PrefixLeader$Lines" "bits" "[I" ∈ wsX2_lastHolder := by decide +kernel
theorem knX2_lastHolder_X7_beginsi : Cond.initialized yX7_begins.cls ∈ wsX2_lastHolder := by decide +kernel
theorem knX2_lastHolder_X7_beginss : Cond.static yX7_begins ∈ wsX2_lastHolder := by decide +kernel
theorem kiX2_goalAmong_X2 : ∀ w ∈ wsX20, w ∈ wsX2_goalAmong := by decide +kernel
theorem kfX2_goalAmong_28 : Cond.fieldLink RX2 28 "PrefixLeader$Lines" "goal" "[I" ∈ wsX2_goalAmong := by decide +kernel
theorem kiX2_clear_X2 : ∀ w ∈ wsX20, w ∈ wsX2_clear := by decide +kernel
theorem kfX2_clear_39 : Cond.fieldLink RX2 39 "PrefixLeader$Lines" "size" "I" ∈ wsX2_clear := by decide +kernel
theorem kiX2_append_X2 : ∀ w ∈ wsX20, w ∈ wsX2_append := by decide +kernel
theorem kfX2_append_39 : Cond.fieldLink RX2 39 "PrefixLeader$Lines" "size" "I" ∈ wsX2_append := by decide +kernel
theorem kfX2_append_15 : Cond.fieldLink RX2 15 "PrefixLeader$Lines" "room" "I" ∈ wsX2_append := by decide +kernel
theorem kfX2_append_21 : Cond.fieldLink RX2 21 "PrefixLeader$Lines" "address" "[I" ∈ wsX2_append := by decide +kernel
theorem kfX2_append_25 : Cond.fieldLink RX2 25 "PrefixLeader$Lines" "bits" "[I" ∈ wsX2_append := by decide +kernel
theorem kfX2_append_28 : Cond.fieldLink RX2 28 "PrefixLeader$Lines" "goal" "[I" ∈ wsX2_append := by decide +kernel
theorem kiX2_write_X2 : ∀ w ∈ wsX20, w ∈ wsX2_write := by decide +kernel
theorem kfX2_write_21 : Cond.fieldLink RX2 21 "PrefixLeader$Lines" "address" "[I" ∈ wsX2_write := by decide +kernel
theorem kfX2_write_25 : Cond.fieldLink RX2 25 "PrefixLeader$Lines" "bits" "[I" ∈ wsX2_write := by decide +kernel
theorem kfX2_write_28 : Cond.fieldLink RX2 28 "PrefixLeader$Lines" "goal" "[I" ∈ wsX2_write := by decide +kernel
theorem kiX2_insert_X2 : ∀ w ∈ wsX20, w ∈ wsX2_insert := by decide +kernel
theorem kfX2_insert_39 : Cond.fieldLink RX2 39 "PrefixLeader$Lines" "size" "I" ∈ wsX2_insert := by decide +kernel
theorem kfX2_insert_15 : Cond.fieldLink RX2 15 "PrefixLeader$Lines" "room" "I" ∈ wsX2_insert := by decide +kernel
theorem kfX2_insert_21 : Cond.fieldLink RX2 21 "PrefixLeader$Lines" "address" "[I" ∈ wsX2_insert := by decide +kernel
theorem kfX2_insert_25 : Cond.fieldLink RX2 25 "PrefixLeader$Lines" "bits" "[I" ∈ wsX2_insert := by decide +kernel
theorem kfX2_insert_28 : Cond.fieldLink RX2 28 "PrefixLeader$Lines" "goal" "[I" ∈ wsX2_insert := by decide +kernel
theorem kiX2_removeAt_X2 : ∀ w ∈ wsX20, w ∈ wsX2_removeAt := by decide +kernel
theorem kfX2_removeAt_39 : Cond.fieldLink RX2 39 "PrefixLeader$Lines" "size" "I" ∈ wsX2_removeAt := by decide +kernel
theorem kfX2_removeAt_21 : Cond.fieldLink RX2 21 "PrefixLeader$Lines" "address" "[I" ∈ wsX2_removeAt := by decide +kernel
theorem kfX2_removeAt_25 : Cond.fieldLink RX2 25 "PrefixLeader$Lines" "bits" "[I" ∈ wsX2_removeAt := by decide +kernel
theorem kfX2_removeAt_28 : Cond.fieldLink RX2 28 "PrefixLeader$Lines" "goal" "[I" ∈ wsX2_removeAt := by decide +kernel
theorem kiX2_become_X2 : ∀ w ∈ wsX20, w ∈ wsX2_become := by decide +kernel
theorem kfX2_become_39 : Cond.fieldLink RX2 39 "PrefixLeader$Lines" "size" "I" ∈ wsX2_become := by decide +kernel
theorem kfX2_become_15 : Cond.fieldLink RX2 15 "PrefixLeader$Lines" "room" "I" ∈ wsX2_become := by decide +kernel
theorem kmX2_become_55l : Cond.methodLink RX2 55 Lib.Math.min.name ∈ wsX2_become := by decide +kernel
theorem kmX2_become_55s : Cond.static Lib.Math.min.name ∈ wsX2_become := by decide +kernel
theorem kmX2_become_55i : Cond.initialized "java/lang/Math" ∈ wsX2_become := by decide +kernel
theorem kmX2_become_55c : Cond.code Lib.Math.min.name Lib.Math.min.code 2 (some .int) ∈ wsX2_become := by decide +kernel
theorem kfX2_become_21 : Cond.fieldLink RX2 21 "PrefixLeader$Lines" "address" "[I" ∈ wsX2_become := by decide +kernel
theorem kfX2_become_25 : Cond.fieldLink RX2 25 "PrefixLeader$Lines" "bits" "[I" ∈ wsX2_become := by decide +kernel
theorem kfX2_become_28 : Cond.fieldLink RX2 28 "PrefixLeader$Lines" "goal" "[I" ∈ wsX2_become := by decide +kernel
theorem kiX2_merge_X2 : ∀ w ∈ wsX20, w ∈ wsX2_merge := by decide +kernel
theorem kfX2_merge_39 : Cond.fieldLink RX2 39 "PrefixLeader$Lines" "size" "I" ∈ wsX2_merge := by decide +kernel
theorem kfX2_merge_21 : Cond.fieldLink RX2 21 "PrefixLeader$Lines" "address" "[I" ∈ wsX2_merge := by decide +kernel
theorem kfX2_merge_25 : Cond.fieldLink RX2 25 "PrefixLeader$Lines" "bits" "[I" ∈ wsX2_merge := by decide +kernel
theorem kiX2_firstHigh_X2 : ∀ w ∈ wsX20, w ∈ wsX2_firstHigh := by decide +kernel
theorem kfX2_firstHigh_21 : Cond.fieldLink RX2 21 "PrefixLeader$Lines" "address" "[I" ∈ wsX2_firstHigh := by decide +kernel
theorem knX2_firstHigh_X7_bitAti : Cond.initialized yX7_bitAt.cls ∈ wsX2_firstHigh := by decide +kernel
theorem knX2_firstHigh_X7_bitAts : Cond.static yX7_bitAt ∈ wsX2_firstHigh := by decide +kernel
def mX2_first (M : gMem) (x0 : Nat) (x1 : Int32) : Option Int64 := ck (inb x1 (lnOf x0)) <| (mX7_wide (M.1 (x0 + 1) x1.toNatClampNeg)).bind fun r2 => some r2
def mX2_last (M : gMem) (x0 : Nat) (x1 : Int32) : Option Int64 := ck (inb x1 (lnOf x0)) <| ck (inb x1 (lnOf x0)) <| (mX7_mask (M.1 (x0 + 2) x1.toNatClampNeg)).bind fun r3 => (mX7_wide ((M.1 (x0 + 1) x1.toNatClampNeg) ||| (r3 ^^^ (-1 : Int32)))).bind fun r4 => some r4
def mX2_isAt (M : gMem) (x0 : Nat) (x1 : Int32) (x2 : Int32) (x3 : Int32) : Option Int32 := if x1 < 0 then (some (0 : Int32)) else (if (M.1 x0 4) ≤ x1 then (some (0 : Int32)) else (ck (inb x1 (lnOf x0)) <| if (M.1 (x0 + 1) x1.toNatClampNeg) = x2 then (ck (inb x1 (lnOf x0)) <| if (M.1 (x0 + 2) x1.toNatClampNeg) = x3 then (some (1 : Int32)) else (some (0 : Int32))) else (some (0 : Int32))))
def mX2_isAhead (M : gMem) (x0 : Nat) (x1 : Int32) (x2 : Int32) (x3 : Int32) : Option Int32 := ck (inb x1 (lnOf x0)) <| if (M.1 (x0 + 1) x1.toNatClampNeg) = x2 then (ck (inb x1 (lnOf x0)) <| if x3 ≤ (M.1 (x0 + 2) x1.toNatClampNeg) then (some (0 : Int32)) else (some (1 : Int32))) else (ck (inb x1 (lnOf x0)) <| (mX7_wide (M.1 (x0 + 1) x1.toNatClampNeg)).bind fun r4 => (mX7_wide x2).bind fun r5 => if r5 ≤ r4 then (some (0 : Int32)) else (some (1 : Int32)))
def mX2_placeOf_2 : Nat → gMem → Nat → Int32 → Int32 → Int32 → Option Int32
  | 0, _, _, _, _, _ => none
  | n + 1, M, x0, x1, x2, x3 => if (M.1 x0 4) ≤ x3 then (some (M.1 x0 4)) else ((mX2_isAhead M x0 x3 x1 x2).bind fun r2 => if r2 = 0 then (some x3) else (nmd (x3 + (1 : Int32)) fun y4 => mX2_placeOf_2 n M x0 x1 x2 y4))
def mX2_placeOf (M : gMem) (x0 : Nat) (x1 : Int32) (x2 : Int32) : Option Int32 := mX2_placeOf_2 FU M x0 x1 x2 (0 : Int32)
def mX2_hasBeginning (M : gMem) (x0 : Nat) (x1 : Int32) (x2 : Int32) : Option Int32 := (mX2_placeOf M x0 x1 x2).bind fun r1 => (mX2_isAt M x0 r1 x1 x2).bind fun r2 => ck (tv r2) (some r2)
def mX2_hasLine (M : gMem) (x0 : Nat) (x1 : Int32) (x2 : Int32) (x3 : Int32) : Option Int32 := (mX2_placeOf M x0 x1 x2).bind fun r1 => (mX2_isAt M x0 r1 x1 x2).bind fun r2 => if r2 = 0 then (some (0 : Int32)) else (ck (inb r1 (lnOf x0)) <| if (M.1 (x0 + 3) r1.toNatClampNeg) = x3 then (some (1 : Int32)) else (some (0 : Int32)))
def mX2_endOf_7 : Nat → gMem → Nat → Int32 → Int32 → Int32 → Option Int32
  | 0, _, _, _, _, _ => none
  | n + 1, M, x0, x2, x3, x4 => if (M.1 x0 4) ≤ x4 then (some (M.1 x0 4)) else (ck (inb x4 (lnOf x0)) <| (mX7_begins (M.1 (x0 + 1) x4.toNatClampNeg) x2 x3).bind fun r3 => if r3 = 0 then (some x4) else (nmd (x4 + (1 : Int32)) fun y5 => mX2_endOf_7 n M x0 x2 x3 y5))
def mX2_endOf (M : gMem) (x0 : Nat) (x1 : Int32) (x2 : Int32) (x3 : Int32) : Option Int32 := nmd (if x1 < (0 : Int32) then (0 : Int32) else x1) fun y1 => mX2_endOf_7 FU M x0 x2 x3 y1
def mX2_lastHolder_11 : Nat → gMem → Nat → Int32 → Int32 → Option Int32
  | 0, _, _, _, _ => none
  | n + 1, M, x0, x2, x3 => if x3 < 0 then (some (-1 : Int32)) else (ck (inb x3 (lnOf x0)) <| ck (inb x3 (lnOf x0)) <| (mX7_begins x2 (M.1 (x0 + 1) x3.toNatClampNeg) (M.1 (x0 + 2) x3.toNatClampNeg)).bind fun r4 => if r4 = 0 then (nmd (x3 + (-1 : Int32)) fun y6 => mX2_lastHolder_11 n M x0 x2 y6) else (some x3))
def mX2_lastHolder (M : gMem) (x0 : Nat) (x1 : Int32) (x2 : Int32) : Option Int32 := nmd ((if (M.1 x0 4) < x1 then (M.1 x0 4) else x1) - (1 : Int32)) fun y1 => mX2_lastHolder_11 FU M x0 x2 y1
def mX2_goalAmong (M : gMem) (x0 : Nat) (x1 : Int32) (x2 : Int32) : Option Int32 := (mX2_lastHolder M x0 x1 x2).bind fun r1 => if r1 = (-1 : Int32) then (some (16 : Int32)) else (ck (inb r1 (lnOf x0)) <| some (M.1 (x0 + 3) r1.toNatClampNeg))
def mX2_clear (M : gMem) (x0 : Nat) : Option gMem := nmd (sI M x0 4 (0 : Int32)) fun M1 => some M1
def mX2_append (M : gMem) (x0 : Nat) (x1 : Int32) (x2 : Int32) (x3 : Int32) : Option gMem := if (M.1 x0 3) ≤ (M.1 x0 4) then (some M) else (ck (inb (M.1 x0 4) (lnOf x0)) <| nmd (sI M (x0 + 1) (M.1 x0 4).toNatClampNeg x1) fun M3 => ck (inb (M3.1 x0 4) (lnOf x0)) <| nmd (sI M3 (x0 + 2) (M3.1 x0 4).toNatClampNeg x2) fun M5 => ck (inb (M5.1 x0 4) (lnOf x0)) <| nmd (sI M5 (x0 + 3) (M5.1 x0 4).toNatClampNeg x3) fun M7 => nmd (sI M7 x0 4 ((M7.1 x0 4) + (1 : Int32))) fun M8 => some M8)
def mX2_write (M : gMem) (x0 : Nat) (x1 : Int32) (x2 : Int32) (x3 : Int32) (x4 : Int32) : Option gMem := ck (inb x1 (lnOf x0)) <| nmd (sI M (x0 + 1) x1.toNatClampNeg x2) fun M2 => ck (inb x1 (lnOf x0)) <| nmd (sI M2 (x0 + 2) x1.toNatClampNeg x3) fun M4 => ck (inb x1 (lnOf x0)) <| nmd (sI M4 (x0 + 3) x1.toNatClampNeg x4) fun M6 => some M6
def mX2_insert_31 : Nat → gMem → Nat → Int32 → Int32 → Int32 → Int32 → Int32 → Option (Int32 × gMem)
  | 0, _, _, _, _, _, _, _ => none
  | n + 1, M, x0, x1, x2, x3, x4, x5 => if x5 ≤ x1 then ((mX2_write M x0 x1 x2 x3 x4).bind fun r2 => nmd (sI r2 x0 4 ((r2.1 x0 4) + (1 : Int32))) fun M3 => some ((1 : Int32), M3)) else (ck (inb (x5 - (1 : Int32)) (lnOf x0)) <| ck (inb (x5 - (1 : Int32)) (lnOf x0)) <| ck (inb (x5 - (1 : Int32)) (lnOf x0)) <| (mX2_write M x0 x5 (M.1 (x0 + 1) (x5 - (1 : Int32)).toNatClampNeg) (M.1 (x0 + 2) (x5 - (1 : Int32)).toNatClampNeg) (M.1 (x0 + 3) (x5 - (1 : Int32)).toNatClampNeg)).bind fun r7 => nmd (x5 + (-1 : Int32)) fun y8 => mX2_insert_31 n r7 x0 x1 x2 x3 x4 y8)
def mX2_insert (M : gMem) (x0 : Nat) (x1 : Int32) (x2 : Int32) (x3 : Int32) (x4 : Int32) : Option (Int32 × gMem) := if (M.1 x0 3) ≤ (M.1 x0 4) then (some ((0 : Int32), M)) else (if x1 < 0 then (some ((0 : Int32), M)) else (if x1 ≤ (M.1 x0 4) then (nmd (M.1 x0 4) fun y4 => mX2_insert_31 FU M x0 x1 x2 x3 x4 y4) else (some ((0 : Int32), M))))
def mX2_removeAt_25 : Nat → gMem → Nat → Int32 → Option gMem
  | 0, _, _, _ => none
  | n + 1, M, x0, x2 => if (M.1 x0 4) ≤ x2 then (some M) else (ck (inb (x2 + (1 : Int32)) (lnOf x0)) <| ck (inb (x2 + (1 : Int32)) (lnOf x0)) <| ck (inb (x2 + (1 : Int32)) (lnOf x0)) <| (mX2_write M x0 x2 (M.1 (x0 + 1) (x2 + (1 : Int32)).toNatClampNeg) (M.1 (x0 + 2) (x2 + (1 : Int32)).toNatClampNeg) (M.1 (x0 + 3) (x2 + (1 : Int32)).toNatClampNeg)).bind fun r5 => nmd (x2 + (1 : Int32)) fun y6 => mX2_removeAt_25 n r5 x0 y6)
def mX2_removeAt (M : gMem) (x0 : Nat) (x1 : Int32) : Option gMem := if x1 < 0 then (some M) else (if x1 < (M.1 x0 4) then (nmd (sI M x0 4 ((M.1 x0 4) - (1 : Int32))) fun M3 => mX2_removeAt_25 FU M3 x0 x1) else (some M))
def mX2_become_14 : Nat → gMem → Nat → Nat → Int32 → Int32 → Option gMem
  | 0, _, _, _, _, _ => none
  | n + 1, M, x0, x1, x2, x3 => if x2 ≤ x3 then (nmd (sI M x0 4 x2) fun M2 => some M2) else (ck (inb x3 (lnOf x1)) <| ck (inb x3 (lnOf x1)) <| ck (inb x3 (lnOf x1)) <| (mX2_write M x0 x3 (M.1 (x1 + 1) x3.toNatClampNeg) (M.1 (x1 + 2) x3.toNatClampNeg) (M.1 (x1 + 3) x3.toNatClampNeg)).bind fun r6 => nmd (x3 + (1 : Int32)) fun y7 => mX2_become_14 n r6 x0 x1 x2 y7)
def mX2_become (M : gMem) (x0 : Nat) (x1 : Nat) : Option gMem := nmd (if (M.1 x0 3) < (M.1 x1 4) then (M.1 x0 3) else (M.1 x1 4)) fun y1 => mX2_become_14 FU M x0 x1 y1 (0 : Int32)
def mX2_mixed (x0 : Int32) (x1 : Int32) (x2 : Int32) : Option Int32 := if x0 = 0 then (if x1 = (16 : Int32) then (some x2) else (some x1)) else (if x0 = (1 : Int32) then (if x1 = x2 then (some x1) else (some (16 : Int32))) else (if x2 = (16 : Int32) then (some x1) else (some (16 : Int32))))
def mX2_merge_167 (k13 : gMem → Nat → Nat → Nat → Int32 → Int32 → Int32 → Int32 → Option gMem) (M : gMem) (x0 : Nat) (x1 : Nat) (x2 : Nat) (x3 : Int32) (x4 : Int32) (x5 : Int32) (x6 : Int32) (x8 : Int32) (x9 : Int32) : Option gMem := (mX2_goalAmong M x1 x4 x8).bind fun r1 => (mX2_goalAmong M x2 x5 x8).bind fun r2 => (mX2_mixed x3 r1 r2).bind fun r3 => (mX2_append M x0 x8 x9 r3).bind fun r4 => nmd (x6 + (1 : Int32)) fun y5 => k13 r4 x0 x1 x2 x3 x4 x5 y5
def mX2_merge_133 (k13 : gMem → Nat → Nat → Nat → Int32 → Int32 → Int32 → Int32 → Option gMem) (M : gMem) (x0 : Nat) (x1 : Nat) (x2 : Nat) (x3 : Int32) (x4 : Int32) (x5 : Int32) (x6 : Int32) (x8 : Int32) (z0 : Int32) : Option gMem := (mX2_isAt M x1 x4 x8 z0).bind fun r1 => if r1 = 0 then ((mX2_isAt M x2 x5 x8 z0).bind fun r3 => if r3 = 0 then (mX2_merge_167 k13 M x0 x1 x2 x3 x4 x5 x6 x8 z0) else (nmd (x5 + (1 : Int32)) fun y5 => mX2_merge_167 k13 M x0 x1 x2 x3 x4 y5 x6 x8 z0)) else (nmd (x4 + (1 : Int32)) fun y6 => (mX2_isAt M x2 x5 x8 z0).bind fun r7 => if r7 = 0 then (mX2_merge_167 k13 M x0 x1 x2 x3 y6 x5 x6 x8 z0) else (nmd (x5 + (1 : Int32)) fun y9 => mX2_merge_167 k13 M x0 x1 x2 x3 y6 y9 x6 x8 z0))
def mX2_merge_109 (k13 : gMem → Nat → Nat → Nat → Int32 → Int32 → Int32 → Int32 → Option gMem) (M : gMem) (x0 : Nat) (x1 : Nat) (x2 : Nat) (x3 : Int32) (x4 : Int32) (x5 : Int32) (x6 : Int32) (x7 : Int32) (z0 : Int32) : Option gMem := if x7 = 0 then (ck (inb x5 (lnOf x2)) <| mX2_merge_133 k13 M x0 x1 x2 x3 x4 x5 x6 z0 (M.1 (x2 + 2) x5.toNatClampNeg)) else (ck (inb x4 (lnOf x1)) <| mX2_merge_133 k13 M x0 x1 x2 x3 x4 x5 x6 z0 (M.1 (x1 + 2) x4.toNatClampNeg))
def mX2_merge_85 (k13 : gMem → Nat → Nat → Nat → Int32 → Int32 → Int32 → Int32 → Option gMem) (M : gMem) (x0 : Nat) (x1 : Nat) (x2 : Nat) (x3 : Int32) (x4 : Int32) (x5 : Int32) (x6 : Int32) (z0 : Int32) : Option gMem := if z0 = 0 then (ck (inb x5 (lnOf x2)) <| mX2_merge_109 k13 M x0 x1 x2 x3 x4 x5 x6 z0 (M.1 (x2 + 1) x5.toNatClampNeg)) else (ck (inb x4 (lnOf x1)) <| mX2_merge_109 k13 M x0 x1 x2 x3 x4 x5 x6 z0 (M.1 (x1 + 1) x4.toNatClampNeg))
def mX2_merge_39 (k13 : gMem → Nat → Nat → Nat → Int32 → Int32 → Int32 → Int32 → Option gMem) (M : gMem) (x0 : Nat) (x1 : Nat) (x2 : Nat) (x3 : Int32) (x4 : Int32) (x5 : Int32) (x6 : Int32) : Option gMem := if (M.1 x2 4) ≤ x5 then (mX2_merge_85 k13 M x0 x1 x2 x3 x4 x5 x6 (1 : Int32)) else (if (M.1 x1 4) ≤ x4 then (mX2_merge_85 k13 M x0 x1 x2 x3 x4 x5 x6 (0 : Int32)) else (ck (inb x4 (lnOf x1)) <| ck (inb x4 (lnOf x1)) <| (mX2_isAhead M x2 x5 (M.1 (x1 + 1) x4.toNatClampNeg) (M.1 (x1 + 2) x4.toNatClampNeg)).bind fun r5 => if r5 = 0 then (mX2_merge_85 k13 M x0 x1 x2 x3 x4 x5 x6 (1 : Int32)) else (mX2_merge_85 k13 M x0 x1 x2 x3 x4 x5 x6 (0 : Int32))))
def mX2_merge_13 : Nat → gMem → Nat → Nat → Nat → Int32 → Int32 → Int32 → Int32 → Option gMem
  | 0, _, _, _, _, _, _, _, _ => none
  | n + 1, M, x0, x1, x2, x3, x4, x5, x6 => if (128 : Int32) ≤ x6 then (some M) else (if x4 < (M.1 x1 4) then (mX2_merge_39 (mX2_merge_13 n) M x0 x1 x2 x3 x4 x5 x6) else (if (M.1 x2 4) ≤ x5 then (some M) else (mX2_merge_39 (mX2_merge_13 n) M x0 x1 x2 x3 x4 x5 x6)))
def mX2_merge (M : gMem) (x0 : Nat) (x1 : Nat) (x2 : Nat) (x3 : Int32) : Option gMem := (mX2_clear M x0).bind fun r1 => mX2_merge_13 FU r1 x0 x1 x2 x3 (0 : Int32) (0 : Int32) (0 : Int32)
def mX2_firstHigh_3 : Nat → gMem → Nat → Int32 → Int32 → Int32 → Option Int32
  | 0, _, _, _, _, _ => none
  | n + 1, M, x0, x2, x3, x4 => if x2 ≤ x4 then (some x2) else (ck (inb x4 (lnOf x0)) <| (mX7_bitAt x3).bind fun r3 => if ((M.1 (x0 + 1) x4.toNatClampNeg) &&& r3) = 0 then (nmd (x4 + (1 : Int32)) fun y5 => mX2_firstHigh_3 n M x0 x2 x3 y5) else (some x4))
def mX2_firstHigh (M : gMem) (x0 : Nat) (x1 : Int32) (x2 : Int32) (x3 : Int32) : Option Int32 := mX2_firstHigh_3 FU M x0 x2 x3 x1
set_option maxHeartbeats 4000000 in
set_option maxRecDepth 100000 in
theorem c_X2_first (l : Launch) (D : va_G) (cy : gCy) (ad : Nat → Nat) (M : gMem) (x0 : Nat) (hL0 : isL x0) (x1 : Int32) (r0 : Int64) (hm : mX2_first M x0 x1 = some r0) : Met l yX2_first wsX2_first (gR 1 20) (va_Pc [.ref (ad x0), .int x1] (gP shC D cy ad M)) (gQl shC D cy ad r0 M) 0 0 (gA shC ad) := by
  refine gEnter (cc := cX2_first) (maxL := 2) (ret := (some .long)) (by decide) rfl (Nat.le_of_ble_eq_true rfl) ?_
  intro p e s m below meth c ls S hr hlk C hl
  have S : CallFix p m c cX2_first 2 s _ wsX2_first RX2 := S
  have hl : lv_has ls 2 [(0, .ref (ad x0)), (1, .int x1)] := hl
  rw [mX2_first] at hm
  refine lv_aload_n S.1 S.2.1 dX2_first_0 rfl (lv_at hl 0 rfl) ?_
  refine g_get (k := x0) (ci := 2) (f := 0) (v := .ref (ad (x0 + 1)))  S C kiX2_first_X2 kfX2_first_21 rfl (by decide) hL0.1 rfl rfl dX2_first_1 ?_
  refine lv_iload_n S.1 S.2.1 dX2_first_4 rfl (lv_at hl 1 rfl) ?_
  obtain ⟨h1, hm⟩ := ck_ok hm
  refine g_iald S C (k := (x0 + 1)) (hL0).2.1 h1 dX2_first_5 ?_
  obtain ⟨r2, hcr2, hm⟩ := bd_ok hm
  refine gC_l C (gRSN (host := "PrefixLeader") (As := [.int (M.1 (x0 + 1) x1.toNatClampNeg)]) (rest := []) 1 S C (c_X7_wide l D cy ad M (M.1 (x0 + 1) x1.toNatClampNeg) r2 hcr2) gX2_first_X7_wide_n31 rfl (by decide +kernel) knX2_first_X7_widei knX2_first_X7_wides (by decide +kernel) (by decide) rfl hl.1 rfl (Nat.le_of_ble_eq_true rfl) dX2_first_6) (fun H locs C => ?_)
  exact gRetl S hr hlk C (Option.some.inj hm) rfl dX2_first_9
set_option maxHeartbeats 4000000 in
set_option maxRecDepth 100000 in
theorem c_X2_last (l : Launch) (D : va_G) (cy : gCy) (ad : Nat → Nat) (M : gMem) (x0 : Nat) (hL0 : isL x0) (x1 : Int32) (r0 : Int64) (hm : mX2_last M x0 x1 = some r0) : Met l yX2_last wsX2_last (gR 2 43) (va_Pc [.ref (ad x0), .int x1] (gP shC D cy ad M)) (gQl shC D cy ad r0 M) 0 0 (gA shC ad) := by
  refine gEnter (cc := cX2_last) (maxL := 2) (ret := (some .long)) (by decide) rfl (Nat.le_of_ble_eq_true rfl) ?_
  intro p e s m below meth c ls S hr hlk C hl
  have S : CallFix p m c cX2_last 2 s _ wsX2_last RX2 := S
  have hl : lv_has ls 2 [(0, .ref (ad x0)), (1, .int x1)] := hl
  rw [mX2_last] at hm
  refine lv_aload_n S.1 S.2.1 dX2_last_0 rfl (lv_at hl 0 rfl) ?_
  refine g_get (k := x0) (ci := 2) (f := 0) (v := .ref (ad (x0 + 1)))  S C kiX2_last_X2 kfX2_last_21 rfl (by decide) hL0.1 rfl rfl dX2_last_1 ?_
  refine lv_iload_n S.1 S.2.1 dX2_last_4 rfl (lv_at hl 1 rfl) ?_
  obtain ⟨h1, hm⟩ := ck_ok hm
  refine g_iald S C (k := (x0 + 1)) (hL0).2.1 h1 dX2_last_5 ?_
  refine lv_aload_n S.1 S.2.1 dX2_last_6 rfl (lv_at hl 0 rfl) ?_
  refine g_get (k := x0) (ci := 2) (f := 1) (v := .ref (ad (x0 + 2)))  S C kiX2_last_X2 kfX2_last_25 rfl (by decide) hL0.1 rfl rfl dX2_last_7 ?_
  refine lv_iload_n S.1 S.2.1 dX2_last_10 rfl (lv_at hl 1 rfl) ?_
  obtain ⟨h2, hm⟩ := ck_ok hm
  refine g_iald S C (k := (x0 + 2)) (hL0).2.2.1 h2 dX2_last_11 ?_
  obtain ⟨r3, hcr3, hm⟩ := bd_ok hm
  refine gC_i C (gRSN (host := "PrefixLeader") (As := [.int (M.1 (x0 + 2) x1.toNatClampNeg)]) (rest := [.int (M.1 (x0 + 1) x1.toNatClampNeg)]) 1 S C (c_X7_mask l D cy ad M (M.1 (x0 + 2) x1.toNatClampNeg) r3 hcr3) gX2_last_X7_mask_n35 rfl (by decide +kernel) knX2_last_X7_maski knX2_last_X7_masks (by decide +kernel) (by decide) rfl hl.1 rfl (Nat.le_of_ble_eq_true rfl) dX2_last_12) (fun H locs C => ?_)
  refine lv_iconst (v := (-1 : Int32)) S.1 S.2.1 dX2_last_15 (by decide) ?_
  refine lv_ixor S.1 S.2.1 dX2_last_16 ?_
  refine lv_ior S.1 S.2.1 dX2_last_17 ?_
  obtain ⟨r4, hcr4, hm⟩ := bd_ok hm
  refine gC_l C (gRSN (host := "PrefixLeader") (As := [.int ((M.1 (x0 + 1) x1.toNatClampNeg) ||| (r3 ^^^ (-1 : Int32)))]) (rest := []) 1 S C (c_X7_wide l D cy ad M ((M.1 (x0 + 1) x1.toNatClampNeg) ||| (r3 ^^^ (-1 : Int32))) r4 hcr4) gX2_last_X7_wide_n31 rfl (by decide +kernel) knX2_last_X7_widei knX2_last_X7_wides (by decide +kernel) (by decide) rfl hl.1 rfl (Nat.le_of_ble_eq_true rfl) dX2_last_18) (fun H locs C => ?_)
  exact gRetl S hr hlk C (Option.some.inj hm) rfl dX2_last_21
set_option maxHeartbeats 4000000 in
set_option maxRecDepth 100000 in
theorem c_X2_isAt (l : Launch) (D : va_G) (cy : gCy) (ad : Nat → Nat) (M : gMem) (x0 : Nat) (hL0 : isL x0) (x1 : Int32) (x2 : Int32) (x3 : Int32) (r0 : Int32) (hm : mX2_isAt M x0 x1 x2 x3 = some r0) : Met l yX2_isAt wsX2_isAt (gR 0 0) (va_Pc [.ref (ad x0), .int x1, .int x2, .int x3] (gP shC D cy ad M)) (gQi shC D cy ad r0 M) 0 0 (gA shC ad) := by
  refine gEnter (cc := cX2_isAt) (maxL := 4) (ret := (some .boolean)) (by decide) rfl (Nat.le_of_ble_eq_true rfl) ?_
  intro p e s m below meth c ls S hr hlk C hl
  have S : CallFix p m c cX2_isAt 4 s _ wsX2_isAt RX2 := S
  have hl : lv_has ls 4 [(0, .ref (ad x0)), (1, .int x1), (2, .int x2), (3, .int x3)] := hl
  rw [mX2_isAt] at hm
  refine lv_iload_n S.1 S.2.1 dX2_isAt_0 rfl (lv_at hl 1 rfl) ?_
  refine lv_if_lt (tgt := 36) S.1 S.2.1 dX2_isAt_1 (by decide) (fun c1 => ?_) (fun c1 => ?_)
  · rw [if_pos c1] at hm
    refine lv_iconst (v := (0 : Int32)) S.1 S.2.1 dX2_isAt_36 (by decide) ?_
    exact gRetz S hr hlk C rfl (Option.some.inj hm) rfl dX2_isAt_37
  · rw [if_neg c1] at hm
    refine lv_iload_n S.1 S.2.1 dX2_isAt_4 rfl (lv_at hl 1 rfl) ?_
    refine lv_aload_n S.1 S.2.1 dX2_isAt_5 rfl (lv_at hl 0 rfl) ?_
    refine g_get (k := x0) (ci := 2) (f := 4) (v := .int (M.1 x0 4))  S C kiX2_isAt_X2 kfX2_isAt_39 rfl (by decide) hL0.1 rfl rfl dX2_isAt_6 ?_
    refine lv_icmp_ge (tgt := 36) S.1 S.2.1 dX2_isAt_9 (by decide) (fun c2 => ?_) (fun c2 => ?_)
    · rw [if_pos c2] at hm
      refine lv_iconst (v := (0 : Int32)) S.1 S.2.1 dX2_isAt_36 (by decide) ?_
      exact gRetz S hr hlk C rfl (Option.some.inj hm) rfl dX2_isAt_37
    · rw [if_neg c2] at hm
      refine lv_aload_n S.1 S.2.1 dX2_isAt_12 rfl (lv_at hl 0 rfl) ?_
      refine g_get (k := x0) (ci := 2) (f := 0) (v := .ref (ad (x0 + 1)))  S C kiX2_isAt_X2 kfX2_isAt_21 rfl (by decide) hL0.1 rfl rfl dX2_isAt_13 ?_
      refine lv_iload_n S.1 S.2.1 dX2_isAt_16 rfl (lv_at hl 1 rfl) ?_
      obtain ⟨h3, hm⟩ := ck_ok hm
      refine g_iald S C (k := (x0 + 1)) (hL0).2.1 h3 dX2_isAt_17 ?_
      refine lv_iload_n S.1 S.2.1 dX2_isAt_18 rfl (lv_at hl 2 rfl) ?_
      refine lv_icmp_ne (tgt := 36) S.1 S.2.1 dX2_isAt_19 (by decide) (fun c4 => ?_) (fun c4 => ?_)
      · rw [if_neg c4] at hm
        refine lv_iconst (v := (0 : Int32)) S.1 S.2.1 dX2_isAt_36 (by decide) ?_
        exact gRetz S hr hlk C rfl (Option.some.inj hm) rfl dX2_isAt_37
      · rw [if_pos c4] at hm
        refine lv_aload_n S.1 S.2.1 dX2_isAt_22 rfl (lv_at hl 0 rfl) ?_
        refine g_get (k := x0) (ci := 2) (f := 1) (v := .ref (ad (x0 + 2)))  S C kiX2_isAt_X2 kfX2_isAt_25 rfl (by decide) hL0.1 rfl rfl dX2_isAt_23 ?_
        refine lv_iload_n S.1 S.2.1 dX2_isAt_26 rfl (lv_at hl 1 rfl) ?_
        obtain ⟨h5, hm⟩ := ck_ok hm
        refine g_iald S C (k := (x0 + 2)) (hL0).2.2.1 h5 dX2_isAt_27 ?_
        refine lv_iload_n S.1 S.2.1 dX2_isAt_28 rfl (lv_at hl 3 rfl) ?_
        refine lv_icmp_ne (tgt := 36) S.1 S.2.1 dX2_isAt_29 (by decide) (fun c6 => ?_) (fun c6 => ?_)
        · rw [if_neg c6] at hm
          refine lv_iconst (v := (0 : Int32)) S.1 S.2.1 dX2_isAt_36 (by decide) ?_
          exact gRetz S hr hlk C rfl (Option.some.inj hm) rfl dX2_isAt_37
        · rw [if_pos c6] at hm
          refine lv_iconst (v := (1 : Int32)) S.1 S.2.1 dX2_isAt_32 (by decide) ?_
          refine lv_goto (tgt := 37) S.1 S.2.1 dX2_isAt_33 (by decide) ?_
          exact gRetz S hr hlk C rfl (Option.some.inj hm) rfl dX2_isAt_37
set_option maxHeartbeats 4000000 in
set_option maxRecDepth 100000 in
theorem c_X2_isAhead (l : Launch) (D : va_G) (cy : gCy) (ad : Nat → Nat) (M : gMem) (x0 : Nat) (hL0 : isL x0) (x1 : Int32) (x2 : Int32) (x3 : Int32) (r0 : Int32) (hm : mX2_isAhead M x0 x1 x2 x3 = some r0) : Met l yX2_isAhead wsX2_isAhead (gR 1 20) (va_Pc [.ref (ad x0), .int x1, .int x2, .int x3] (gP shC D cy ad M)) (gQi shC D cy ad r0 M) 0 0 (gA shC ad) := by
  refine gEnter (cc := cX2_isAhead) (maxL := 4) (ret := (some .boolean)) (by decide) rfl (Nat.le_of_ble_eq_true rfl) ?_
  intro p e s m below meth c ls S hr hlk C hl
  have S : CallFix p m c cX2_isAhead 4 s _ wsX2_isAhead RX2 := S
  have hl : lv_has ls 4 [(0, .ref (ad x0)), (1, .int x1), (2, .int x2), (3, .int x3)] := hl
  rw [mX2_isAhead] at hm
  refine lv_aload_n S.1 S.2.1 dX2_isAhead_0 rfl (lv_at hl 0 rfl) ?_
  refine g_get (k := x0) (ci := 2) (f := 0) (v := .ref (ad (x0 + 1)))  S C kiX2_isAhead_X2 kfX2_isAhead_21 rfl (by decide) hL0.1 rfl rfl dX2_isAhead_1 ?_
  refine lv_iload_n S.1 S.2.1 dX2_isAhead_4 rfl (lv_at hl 1 rfl) ?_
  obtain ⟨h1, hm⟩ := ck_ok hm
  refine g_iald S C (k := (x0 + 1)) (hL0).2.1 h1 dX2_isAhead_5 ?_
  refine lv_iload_n S.1 S.2.1 dX2_isAhead_6 rfl (lv_at hl 2 rfl) ?_
  refine lv_icmp_ne (tgt := 26) S.1 S.2.1 dX2_isAhead_7 (by decide) (fun c2 => ?_) (fun c2 => ?_)
  · rw [if_neg c2] at hm
    refine lv_aload_n S.1 S.2.1 dX2_isAhead_26 rfl (lv_at hl 0 rfl) ?_
    refine g_get (k := x0) (ci := 2) (f := 0) (v := .ref (ad (x0 + 1)))  S C kiX2_isAhead_X2 kfX2_isAhead_21 rfl (by decide) hL0.1 rfl rfl dX2_isAhead_27 ?_
    refine lv_iload_n S.1 S.2.1 dX2_isAhead_30 rfl (lv_at hl 1 rfl) ?_
    obtain ⟨h3, hm⟩ := ck_ok hm
    refine g_iald S C (k := (x0 + 1)) (hL0).2.1 h3 dX2_isAhead_31 ?_
    obtain ⟨r4, hcr4, hm⟩ := bd_ok hm
    refine gC_l C (gRSN (host := "PrefixLeader") (As := [.int (M.1 (x0 + 1) x1.toNatClampNeg)]) (rest := []) 1 S C (c_X7_wide l D cy ad M (M.1 (x0 + 1) x1.toNatClampNeg) r4 hcr4) gX2_isAhead_X7_wide_n31 rfl (by decide +kernel) knX2_isAhead_X7_widei knX2_isAhead_X7_wides (by decide +kernel) (by decide) rfl hl.1 rfl (Nat.le_of_ble_eq_true rfl) dX2_isAhead_32) (fun H locs C => ?_)
    refine lv_iload_n S.1 S.2.1 dX2_isAhead_35 rfl (lv_at hl 2 rfl) ?_
    obtain ⟨r5, hcr5, hm⟩ := bd_ok hm
    refine gC_l C (gRSN (host := "PrefixLeader") (As := [.int x2]) (rest := [.long r4]) 1 S C (c_X7_wide l D cy ad M x2 r5 hcr5) gX2_isAhead_X7_wide_n31 rfl (by decide +kernel) knX2_isAhead_X7_widei knX2_isAhead_X7_wides (by decide +kernel) (by decide) rfl hl.1 rfl (Nat.le_of_ble_eq_true rfl) dX2_isAhead_36) (fun H locs C => ?_)
    refine W.lcmp S.1 S.2.1 dX2_isAhead_39 ?_
    refine lv_if_ge (tgt := 47) S.1 S.2.1 dX2_isAhead_40 (by decide) (fun c6 => ?_) (fun c6 => ?_)
    · rw [if_pos (cmp_ge.mp c6)] at hm
      refine lv_iconst (v := (0 : Int32)) S.1 S.2.1 dX2_isAhead_47 (by decide) ?_
      exact gRetz S hr hlk C rfl (Option.some.inj hm) rfl dX2_isAhead_48
    · rw [if_neg (fun q => c6 (cmp_ge.mpr q))] at hm
      refine lv_iconst (v := (1 : Int32)) S.1 S.2.1 dX2_isAhead_43 (by decide) ?_
      refine lv_goto (tgt := 48) S.1 S.2.1 dX2_isAhead_44 (by decide) ?_
      exact gRetz S hr hlk C rfl (Option.some.inj hm) rfl dX2_isAhead_48
  · rw [if_pos c2] at hm
    refine lv_aload_n S.1 S.2.1 dX2_isAhead_10 rfl (lv_at hl 0 rfl) ?_
    refine g_get (k := x0) (ci := 2) (f := 1) (v := .ref (ad (x0 + 2)))  S C kiX2_isAhead_X2 kfX2_isAhead_25 rfl (by decide) hL0.1 rfl rfl dX2_isAhead_11 ?_
    refine lv_iload_n S.1 S.2.1 dX2_isAhead_14 rfl (lv_at hl 1 rfl) ?_
    obtain ⟨h7, hm⟩ := ck_ok hm
    refine g_iald S C (k := (x0 + 2)) (hL0).2.2.1 h7 dX2_isAhead_15 ?_
    refine lv_iload_n S.1 S.2.1 dX2_isAhead_16 rfl (lv_at hl 3 rfl) ?_
    refine lv_icmp_ge (tgt := 24) S.1 S.2.1 dX2_isAhead_17 (by decide) (fun c8 => ?_) (fun c8 => ?_)
    · rw [if_pos c8] at hm
      refine lv_iconst (v := (0 : Int32)) S.1 S.2.1 dX2_isAhead_24 (by decide) ?_
      exact gRetz S hr hlk C rfl (Option.some.inj hm) rfl dX2_isAhead_25
    · rw [if_neg c8] at hm
      refine lv_iconst (v := (1 : Int32)) S.1 S.2.1 dX2_isAhead_20 (by decide) ?_
      refine lv_goto (tgt := 25) S.1 S.2.1 dX2_isAhead_21 (by decide) ?_
      exact gRetz S hr hlk C rfl (Option.some.inj hm) rfl dX2_isAhead_25
set_option maxHeartbeats 4000000 in
set_option maxRecDepth 100000 in
theorem wX2_placeOf_2 {p : Program} {l : Launch} {e : Env} {s : State} {m : MethodId} {args : Array Value} {below : List Frame} {meth : Method} {c : Code} {D : va_G} {cy : gCy} {ad : Nat → Nat} {M : gMem} {r0 : Int32} (S : CallFix p m c cX2_placeOf 4 s args wsX2_placeOf RX2) (hr : meth.sig.returnType = (some .int)) (hlk : meth.locks = false) : ∀ (n : Nat), ∀ (H : Heap) (locs : List Loc), gW shC D cy ad s s.heap M H locs → ∀ (x0 : Nat) (hL0 : isL x0) (x1 : Int32) (x2 : Int32) (x3 : Int32), ∀ (ls : Array Slot), lv_has ls 4 [(0, .ref (ad x0)), (1, .int x1), (2, .int x2), (3, .int x3)] → mX2_placeOf_2 n M x0 x1 x2 x3 = some r0 → W p l e (gR 2 43) s m args below meth c H locs 0 0 (MQ below (gQi shC D cy ad r0 M) args s 0 0 (gA shC ad)) (F0 m 2 ls []) := by
  intro n
  induction n with
  | zero => intro H locs C x0 hL0 x1 x2 x3 ls hl hm; exact absurd hm (by simp [mX2_placeOf_2])
  | succ n ih =>
    intro H locs C x0 hL0 x1 x2 x3 ls hl hm
    rw [mX2_placeOf_2] at hm
    refine lv_iload_n S.1 S.2.1 dX2_placeOf_2 rfl (lv_at hl 3 rfl) ?_
    refine lv_aload_n S.1 S.2.1 dX2_placeOf_3 rfl (lv_at hl 0 rfl) ?_
    refine g_get (k := x0) (ci := 2) (f := 4) (v := .int (M.1 x0 4))  S C kiX2_placeOf_X2 kfX2_placeOf_39 rfl (by decide) hL0.1 rfl rfl dX2_placeOf_4 ?_
    refine lv_icmp_ge (tgt := 28) S.1 S.2.1 dX2_placeOf_7 (by decide) (fun c1 => ?_) (fun c1 => ?_)
    · rw [if_pos c1] at hm
      refine lv_aload_n S.1 S.2.1 dX2_placeOf_28 rfl (lv_at hl 0 rfl) ?_
      refine g_get (k := x0) (ci := 2) (f := 4) (v := .int (M.1 x0 4))  S C kiX2_placeOf_X2 kfX2_placeOf_39 rfl (by decide) hL0.1 rfl rfl dX2_placeOf_29 ?_
      exact gReti S hr hlk C (Option.some.inj hm) rfl dX2_placeOf_32
    · rw [if_neg c1] at hm
      refine lv_aload_n S.1 S.2.1 dX2_placeOf_10 rfl (lv_at hl 0 rfl) ?_
      refine lv_iload_n S.1 S.2.1 dX2_placeOf_11 rfl (lv_at hl 3 rfl) ?_
      refine lv_iload_n S.1 S.2.1 dX2_placeOf_12 rfl (lv_at hl 1 rfl) ?_
      refine lv_iload_n S.1 S.2.1 dX2_placeOf_13 rfl (lv_at hl 2 rfl) ?_
      obtain ⟨r2, hcr2, hm⟩ := bd_ok hm
      refine gC_i C (gRV (k := x0) (ci := 2) (r := (RX2, TX2, 5)) (As := [.int x3, .int x1, .int x2]) (rest := []) 3 S C (c_X2_isAhead l D cy ad M x0 hL0 x3 x1 x2 r2 hcr2) gX2_placeOf_X2_isAhead rfl (by decide +kernel) (by decide) hL0.1 rfl rfl rfl hl.1 rfl (Nat.le_of_ble_eq_true rfl) dX2_placeOf_14) (fun H locs C => ?_)
      refine lv_if_ne (tgt := 22) S.1 S.2.1 dX2_placeOf_17 (by decide) (fun c3 => ?_) (fun c3 => ?_)
      · rw [if_neg c3] at hm
        obtain ⟨y4, ey4, hm⟩ := nmd_ok hm
        refine lv_iinc (v := y4) (lv' := [(3, .int y4), (0, .ref (ad x0)), (1, .int x1), (2, .int x2)]) S.1 S.2.1 dX2_placeOf_22 hl (k := 3) rfl (by rw [ey4]; rfl) (by decide) rfl (fun ls hl => ?_)
        refine lv_goto (tgt := 2) S.1 S.2.1 dX2_placeOf_25 (by decide) ?_
        exact ih _ _ C x0 hL0 x1 x2 y4 ls (lv_sub hl [1, 2, 3, 0] rfl) hm
      · rw [if_pos c3] at hm
        refine lv_iload_n S.1 S.2.1 dX2_placeOf_20 rfl (lv_at hl 3 rfl) ?_
        exact gReti S hr hlk C (Option.some.inj hm) rfl dX2_placeOf_21
set_option maxHeartbeats 4000000 in
set_option maxRecDepth 100000 in
theorem c_X2_placeOf (l : Launch) (D : va_G) (cy : gCy) (ad : Nat → Nat) (M : gMem) (x0 : Nat) (hL0 : isL x0) (x1 : Int32) (x2 : Int32) (r0 : Int32) (hm : mX2_placeOf M x0 x1 x2 = some r0) : Met l yX2_placeOf wsX2_placeOf (gR 2 43) (va_Pc [.ref (ad x0), .int x1, .int x2] (gP shC D cy ad M)) (gQi shC D cy ad r0 M) 0 0 (gA shC ad) := by
  refine gEnter (cc := cX2_placeOf) (maxL := 4) (ret := (some .int)) (by decide) rfl (Nat.le_of_ble_eq_true rfl) ?_
  intro p e s m below meth c ls S hr hlk C hl
  have S : CallFix p m c cX2_placeOf 4 s _ wsX2_placeOf RX2 := S
  have hl : lv_has ls 4 [(0, .ref (ad x0)), (1, .int x1), (2, .int x2)] := hl
  rw [mX2_placeOf] at hm
  refine lv_iconst (v := (0 : Int32)) S.1 S.2.1 dX2_placeOf_0 (by decide) ?_
  refine lv_istore_n (lv' := [(3, .int (0 : Int32)), (0, .ref (ad x0)), (1, .int x1), (2, .int x2)]) S.1 S.2.1 dX2_placeOf_1 rfl hl (by decide) rfl (fun ls hl => ?_)
  exact wX2_placeOf_2 S hr hlk FU _ _ C x0 hL0 x1 x2 (0 : Int32) ls (lv_sub hl [1, 2, 3, 0] rfl) hm
set_option maxHeartbeats 4000000 in
set_option maxRecDepth 100000 in
theorem c_X2_hasBeginning (l : Launch) (D : va_G) (cy : gCy) (ad : Nat → Nat) (M : gMem) (x0 : Nat) (hL0 : isL x0) (x1 : Int32) (x2 : Int32) (r0 : Int32) (hm : mX2_hasBeginning M x0 x1 x2 = some r0) : Met l yX2_hasBeginning wsX2_hasBeginning (gR 3 66) (va_Pc [.ref (ad x0), .int x1, .int x2] (gP shC D cy ad M)) (gQi shC D cy ad r0 M) 0 0 (gA shC ad) := by
  refine gEnter (cc := cX2_hasBeginning) (maxL := 3) (ret := (some .boolean)) (by decide) rfl (Nat.le_of_ble_eq_true rfl) ?_
  intro p e s m below meth c ls S hr hlk C hl
  have S : CallFix p m c cX2_hasBeginning 3 s _ wsX2_hasBeginning RX2 := S
  have hl : lv_has ls 3 [(0, .ref (ad x0)), (1, .int x1), (2, .int x2)] := hl
  rw [mX2_hasBeginning] at hm
  refine lv_aload_n S.1 S.2.1 dX2_hasBeginning_0 rfl (lv_at hl 0 rfl) ?_
  refine lv_aload_n S.1 S.2.1 dX2_hasBeginning_1 rfl (lv_at hl 0 rfl) ?_
  refine lv_iload_n S.1 S.2.1 dX2_hasBeginning_2 rfl (lv_at hl 1 rfl) ?_
  refine lv_iload_n S.1 S.2.1 dX2_hasBeginning_3 rfl (lv_at hl 2 rfl) ?_
  obtain ⟨r1, hcr1, hm⟩ := bd_ok hm
  refine gC_i C (gRV (k := x0) (ci := 2) (r := (RX2, TX2, 5)) (As := [.int x1, .int x2]) (rest := [.ref (ad x0)]) 2 S C (c_X2_placeOf l D cy ad M x0 hL0 x1 x2 r1 hcr1) gX2_hasBeginning_X2_placeOf rfl (by decide +kernel) (by decide) hL0.1 rfl rfl rfl hl.1 rfl (Nat.le_of_ble_eq_true rfl) dX2_hasBeginning_4) (fun H locs C => ?_)
  refine lv_iload_n S.1 S.2.1 dX2_hasBeginning_7 rfl (lv_at hl 1 rfl) ?_
  refine lv_iload_n S.1 S.2.1 dX2_hasBeginning_8 rfl (lv_at hl 2 rfl) ?_
  obtain ⟨r2, hcr2, hm⟩ := bd_ok hm
  refine gC_i C (gRV (k := x0) (ci := 2) (r := (RX2, TX2, 5)) (As := [.int r1, .int x1, .int x2]) (rest := []) 3 S C (c_X2_isAt l D cy ad M x0 hL0 r1 x1 x2 r2 hcr2) gX2_hasBeginning_X2_isAt rfl (by decide +kernel) (by decide) hL0.1 rfl rfl rfl hl.1 rfl (Nat.le_of_ble_eq_true rfl) dX2_hasBeginning_9) (fun H locs C => ?_)
  obtain ⟨hz, hm⟩ := ck_ok hm
  exact gRetz S hr hlk C (tv_ok hz) (Option.some.inj hm) rfl dX2_hasBeginning_12
set_option maxHeartbeats 4000000 in
set_option maxRecDepth 100000 in
theorem c_X2_hasLine (l : Launch) (D : va_G) (cy : gCy) (ad : Nat → Nat) (M : gMem) (x0 : Nat) (hL0 : isL x0) (x1 : Int32) (x2 : Int32) (x3 : Int32) (r0 : Int32) (hm : mX2_hasLine M x0 x1 x2 x3 = some r0) : Met l yX2_hasLine wsX2_hasLine (gR 3 66) (va_Pc [.ref (ad x0), .int x1, .int x2, .int x3] (gP shC D cy ad M)) (gQi shC D cy ad r0 M) 0 0 (gA shC ad) := by
  refine gEnter (cc := cX2_hasLine) (maxL := 5) (ret := (some .boolean)) (by decide) rfl (Nat.le_of_ble_eq_true rfl) ?_
  intro p e s m below meth c ls S hr hlk C hl
  have S : CallFix p m c cX2_hasLine 5 s _ wsX2_hasLine RX2 := S
  have hl : lv_has ls 5 [(0, .ref (ad x0)), (1, .int x1), (2, .int x2), (3, .int x3)] := hl
  rw [mX2_hasLine] at hm
  refine lv_aload_n S.1 S.2.1 dX2_hasLine_0 rfl (lv_at hl 0 rfl) ?_
  refine lv_iload_n S.1 S.2.1 dX2_hasLine_1 rfl (lv_at hl 1 rfl) ?_
  refine lv_iload_n S.1 S.2.1 dX2_hasLine_2 rfl (lv_at hl 2 rfl) ?_
  obtain ⟨r1, hcr1, hm⟩ := bd_ok hm
  refine gC_i C (gRV (k := x0) (ci := 2) (r := (RX2, TX2, 5)) (As := [.int x1, .int x2]) (rest := []) 2 S C (c_X2_placeOf l D cy ad M x0 hL0 x1 x2 r1 hcr1) gX2_hasLine_X2_placeOf rfl (by decide +kernel) (by decide) hL0.1 rfl rfl rfl hl.1 rfl (Nat.le_of_ble_eq_true rfl) dX2_hasLine_3) (fun H locs C => ?_)
  refine lv_istore (lv' := [(4, .int r1), (0, .ref (ad x0)), (1, .int x1), (2, .int x2), (3, .int x3)]) S.1 S.2.1 dX2_hasLine_6 hl (by decide) rfl (fun ls hl => ?_)
  refine lv_aload_n S.1 S.2.1 dX2_hasLine_8 rfl (lv_at hl 1 rfl) ?_
  refine lv_iload S.1 S.2.1 dX2_hasLine_9 (lv_at hl 0 rfl) ?_
  refine lv_iload_n S.1 S.2.1 dX2_hasLine_11 rfl (lv_at hl 2 rfl) ?_
  refine lv_iload_n S.1 S.2.1 dX2_hasLine_12 rfl (lv_at hl 3 rfl) ?_
  obtain ⟨r2, hcr2, hm⟩ := bd_ok hm
  refine gC_i C (gRV (k := x0) (ci := 2) (r := (RX2, TX2, 5)) (As := [.int r1, .int x1, .int x2]) (rest := []) 3 S C (c_X2_isAt l D cy ad M x0 hL0 r1 x1 x2 r2 hcr2) gX2_hasLine_X2_isAt rfl (by decide +kernel) (by decide) hL0.1 rfl rfl rfl hl.1 rfl (Nat.le_of_ble_eq_true rfl) dX2_hasLine_13) (fun H locs C => ?_)
  refine lv_if_eq (tgt := 34) S.1 S.2.1 dX2_hasLine_16 (by decide) (fun c3 => ?_) (fun c3 => ?_)
  · rw [if_pos c3] at hm
    refine lv_iconst (v := (0 : Int32)) S.1 S.2.1 dX2_hasLine_34 (by decide) ?_
    exact gRetz S hr hlk C rfl (Option.some.inj hm) rfl dX2_hasLine_35
  · rw [if_neg c3] at hm
    refine lv_aload_n S.1 S.2.1 dX2_hasLine_19 rfl (lv_at hl 1 rfl) ?_
    refine g_get (k := x0) (ci := 2) (f := 2) (v := .ref (ad (x0 + 3)))  S C kiX2_hasLine_X2 kfX2_hasLine_28 rfl (by decide) hL0.1 rfl rfl dX2_hasLine_20 ?_
    refine lv_iload S.1 S.2.1 dX2_hasLine_23 (lv_at hl 0 rfl) ?_
    obtain ⟨h4, hm⟩ := ck_ok hm
    refine g_iald S C (k := (x0 + 3)) (hL0).2.2.2 h4 dX2_hasLine_25 ?_
    refine lv_iload_n S.1 S.2.1 dX2_hasLine_26 rfl (lv_at hl 4 rfl) ?_
    refine lv_icmp_ne (tgt := 34) S.1 S.2.1 dX2_hasLine_27 (by decide) (fun c5 => ?_) (fun c5 => ?_)
    · rw [if_neg c5] at hm
      refine lv_iconst (v := (0 : Int32)) S.1 S.2.1 dX2_hasLine_34 (by decide) ?_
      exact gRetz S hr hlk C rfl (Option.some.inj hm) rfl dX2_hasLine_35
    · rw [if_pos c5] at hm
      refine lv_iconst (v := (1 : Int32)) S.1 S.2.1 dX2_hasLine_30 (by decide) ?_
      refine lv_goto (tgt := 35) S.1 S.2.1 dX2_hasLine_31 (by decide) ?_
      exact gRetz S hr hlk C rfl (Option.some.inj hm) rfl dX2_hasLine_35
set_option maxHeartbeats 4000000 in
set_option maxRecDepth 100000 in
theorem wX2_endOf_7 {p : Program} {l : Launch} {e : Env} {s : State} {m : MethodId} {args : Array Value} {below : List Frame} {meth : Method} {c : Code} {D : va_G} {cy : gCy} {ad : Nat → Nat} {M : gMem} {r0 : Int32} (S : CallFix p m c cX2_endOf 5 s args wsX2_endOf RX2) (hr : meth.sig.returnType = (some .int)) (hlk : meth.locks = false) : ∀ (n : Nat), ∀ (H : Heap) (locs : List Loc), gW shC D cy ad s s.heap M H locs → ∀ (x0 : Nat) (hL0 : isL x0) (x2 : Int32) (x3 : Int32) (x4 : Int32), ∀ (ls : Array Slot), lv_has ls 5 [(0, .ref (ad x0)), (2, .int x2), (3, .int x3), (4, .int x4)] → mX2_endOf_7 n M x0 x2 x3 x4 = some r0 → W p l e (gR 3 65) s m args below meth c H locs 0 0 (MQ below (gQi shC D cy ad r0 M) args s 0 0 (gA shC ad)) (F0 m 7 ls []) := by
  intro n
  induction n with
  | zero => intro H locs C x0 hL0 x2 x3 x4 ls hl hm; exact absurd hm (by simp [mX2_endOf_7])
  | succ n ih =>
    intro H locs C x0 hL0 x2 x3 x4 ls hl hm
    rw [mX2_endOf_7] at hm
    refine lv_iload S.1 S.2.1 dX2_endOf_7 (lv_at hl 3 rfl) ?_
    refine lv_aload_n S.1 S.2.1 dX2_endOf_9 rfl (lv_at hl 0 rfl) ?_
    refine g_get (k := x0) (ci := 2) (f := 4) (v := .int (M.1 x0 4))  S C kiX2_endOf_X2 kfX2_endOf_39 rfl (by decide) hL0.1 rfl rfl dX2_endOf_10 ?_
    refine lv_icmp_ge (tgt := 40) S.1 S.2.1 dX2_endOf_13 (by decide) (fun c1 => ?_) (fun c1 => ?_)
    · rw [if_pos c1] at hm
      refine lv_aload_n S.1 S.2.1 dX2_endOf_40 rfl (lv_at hl 0 rfl) ?_
      refine g_get (k := x0) (ci := 2) (f := 4) (v := .int (M.1 x0 4))  S C kiX2_endOf_X2 kfX2_endOf_39 rfl (by decide) hL0.1 rfl rfl dX2_endOf_41 ?_
      exact gReti S hr hlk C (Option.some.inj hm) rfl dX2_endOf_44
    · rw [if_neg c1] at hm
      refine lv_aload_n S.1 S.2.1 dX2_endOf_16 rfl (lv_at hl 0 rfl) ?_
      refine g_get (k := x0) (ci := 2) (f := 0) (v := .ref (ad (x0 + 1)))  S C kiX2_endOf_X2 kfX2_endOf_21 rfl (by decide) hL0.1 rfl rfl dX2_endOf_17 ?_
      refine lv_iload S.1 S.2.1 dX2_endOf_20 (lv_at hl 3 rfl) ?_
      obtain ⟨h2, hm⟩ := ck_ok hm
      refine g_iald S C (k := (x0 + 1)) (hL0).2.1 h2 dX2_endOf_22 ?_
      refine lv_iload_n S.1 S.2.1 dX2_endOf_23 rfl (lv_at hl 1 rfl) ?_
      refine lv_iload_n S.1 S.2.1 dX2_endOf_24 rfl (lv_at hl 2 rfl) ?_
      obtain ⟨r3, hcr3, hm⟩ := bd_ok hm
      refine gC_i C (gRSN (host := "PrefixLeader") (As := [.int (M.1 (x0 + 1) x4.toNatClampNeg), .int x2, .int x3]) (rest := []) 3 S C (c_X7_begins l D cy ad M (M.1 (x0 + 1) x4.toNatClampNeg) x2 x3 r3 hcr3) gX2_endOf_X7_begins_n52 rfl (by decide +kernel) knX2_endOf_X7_beginsi knX2_endOf_X7_beginss (by decide +kernel) (by decide) rfl hl.1 rfl (Nat.le_of_ble_eq_true rfl) dX2_endOf_25) (fun H locs C => ?_)
      refine lv_if_ne (tgt := 34) S.1 S.2.1 dX2_endOf_28 (by decide) (fun c4 => ?_) (fun c4 => ?_)
      · rw [if_neg c4] at hm
        obtain ⟨y5, ey5, hm⟩ := nmd_ok hm
        refine lv_iinc (v := y5) (lv' := [(4, .int y5), (0, .ref (ad x0)), (2, .int x2), (3, .int x3)]) S.1 S.2.1 dX2_endOf_34 hl (k := 3) rfl (by rw [ey5]; rfl) (by decide) rfl (fun ls hl => ?_)
        refine lv_goto (tgt := 7) S.1 S.2.1 dX2_endOf_37 (by decide) ?_
        exact ih _ _ C x0 hL0 x2 x3 y5 ls (lv_sub hl [1, 2, 3, 0] rfl) hm
      · rw [if_pos c4] at hm
        refine lv_iload S.1 S.2.1 dX2_endOf_31 (lv_at hl 3 rfl) ?_
        exact gReti S hr hlk C (Option.some.inj hm) rfl dX2_endOf_33
set_option maxHeartbeats 4000000 in
set_option maxRecDepth 100000 in
theorem c_X2_endOf (l : Launch) (D : va_G) (cy : gCy) (ad : Nat → Nat) (M : gMem) (x0 : Nat) (hL0 : isL x0) (x1 : Int32) (x2 : Int32) (x3 : Int32) (r0 : Int32) (hm : mX2_endOf M x0 x1 x2 x3 = some r0) : Met l yX2_endOf wsX2_endOf (gR 3 65) (va_Pc [.ref (ad x0), .int x1, .int x2, .int x3] (gP shC D cy ad M)) (gQi shC D cy ad r0 M) 0 0 (gA shC ad) := by
  refine gEnter (cc := cX2_endOf) (maxL := 5) (ret := (some .int)) (by decide) rfl (Nat.le_of_ble_eq_true rfl) ?_
  intro p e s m below meth c ls S hr hlk C hl
  have S : CallFix p m c cX2_endOf 5 s _ wsX2_endOf RX2 := S
  have hl : lv_has ls 5 [(0, .ref (ad x0)), (1, .int x1), (2, .int x2), (3, .int x3)] := hl
  rw [mX2_endOf] at hm
  refine lv_iload_n S.1 S.2.1 dX2_endOf_0 rfl (lv_at hl 1 rfl) ?_
  refine lv_iconst (v := (0 : Int32)) S.1 S.2.1 dX2_endOf_1 (by decide) ?_
  refine va_mmax S.1 S.2.1 (S.2.2.1.trans hl.1.symm) S.2.2.2.1 (S.2.2.2.2 _ kmX2_endOf_9l) (S.2.2.2.2 _ kmX2_endOf_9s) (S.2.2.2.2 _ kmX2_endOf_9i) (S.2.2.2.2 _ kmX2_endOf_9c) (rest := []) (Nat.le_of_ble_eq_true rfl) (Nat.le_of_ble_eq_true rfl) (Nat.le_refl _) (Nat.le_refl _) dX2_endOf_2 ?_
  obtain ⟨y1, ey1, hm⟩ := nmd_ok hm
  refine gNmI ey1 ?_
  refine lv_istore (lv' := [(4, .int y1), (0, .ref (ad x0)), (1, .int x1), (2, .int x2), (3, .int x3)]) S.1 S.2.1 dX2_endOf_5 hl (by decide) rfl (fun ls hl => ?_)
  exact wX2_endOf_7 S hr hlk FU _ _ C x0 hL0 x2 x3 y1 ls (lv_sub hl [1, 3, 4, 0] rfl) hm
set_option maxHeartbeats 4000000 in
set_option maxRecDepth 100000 in
theorem wX2_lastHolder_11 {p : Program} {l : Launch} {e : Env} {s : State} {m : MethodId} {args : Array Value} {below : List Frame} {meth : Method} {c : Code} {D : va_G} {cy : gCy} {ad : Nat → Nat} {M : gMem} {r0 : Int32} (S : CallFix p m c cX2_lastHolder 4 s args wsX2_lastHolder RX2) (hr : meth.sig.returnType = (some .int)) (hlk : meth.locks = false) : ∀ (n : Nat), ∀ (H : Heap) (locs : List Loc), gW shC D cy ad s s.heap M H locs → ∀ (x0 : Nat) (hL0 : isL x0) (x2 : Int32) (x3 : Int32), ∀ (ls : Array Slot), lv_has ls 4 [(0, .ref (ad x0)), (2, .int x2), (3, .int x3)] → mX2_lastHolder_11 n M x0 x2 x3 = some r0 → W p l e (gR 3 65) s m args below meth c H locs 0 0 (MQ below (gQi shC D cy ad r0 M) args s 0 0 (gA shC ad)) (F0 m 11 ls []) := by
  intro n
  induction n with
  | zero => intro H locs C x0 hL0 x2 x3 ls hl hm; exact absurd hm (by simp [mX2_lastHolder_11])
  | succ n ih =>
    intro H locs C x0 hL0 x2 x3 ls hl hm
    rw [mX2_lastHolder_11] at hm
    refine lv_iload_n S.1 S.2.1 dX2_lastHolder_11 rfl (lv_at hl 2 rfl) ?_
    refine lv_if_lt (tgt := 42) S.1 S.2.1 dX2_lastHolder_12 (by decide) (fun c1 => ?_) (fun c1 => ?_)
    · rw [if_pos c1] at hm
      refine lv_iconst (v := (-1 : Int32)) S.1 S.2.1 dX2_lastHolder_42 (by decide) ?_
      exact gReti S hr hlk C (Option.some.inj hm) rfl dX2_lastHolder_43
    · rw [if_neg c1] at hm
      refine lv_iload_n S.1 S.2.1 dX2_lastHolder_15 rfl (lv_at hl 1 rfl) ?_
      refine lv_aload_n S.1 S.2.1 dX2_lastHolder_16 rfl (lv_at hl 0 rfl) ?_
      refine g_get (k := x0) (ci := 2) (f := 0) (v := .ref (ad (x0 + 1)))  S C kiX2_lastHolder_X2 kfX2_lastHolder_21 rfl (by decide) hL0.1 rfl rfl dX2_lastHolder_17 ?_
      refine lv_iload_n S.1 S.2.1 dX2_lastHolder_20 rfl (lv_at hl 2 rfl) ?_
      obtain ⟨h2, hm⟩ := ck_ok hm
      refine g_iald S C (k := (x0 + 1)) (hL0).2.1 h2 dX2_lastHolder_21 ?_
      refine lv_aload_n S.1 S.2.1 dX2_lastHolder_22 rfl (lv_at hl 0 rfl) ?_
      refine g_get (k := x0) (ci := 2) (f := 1) (v := .ref (ad (x0 + 2)))  S C kiX2_lastHolder_X2 kfX2_lastHolder_25 rfl (by decide) hL0.1 rfl rfl dX2_lastHolder_23 ?_
      refine lv_iload_n S.1 S.2.1 dX2_lastHolder_26 rfl (lv_at hl 2 rfl) ?_
      obtain ⟨h3, hm⟩ := ck_ok hm
      refine g_iald S C (k := (x0 + 2)) (hL0).2.2.1 h3 dX2_lastHolder_27 ?_
      obtain ⟨r4, hcr4, hm⟩ := bd_ok hm
      refine gC_i C (gRSN (host := "PrefixLeader") (As := [.int x2, .int (M.1 (x0 + 1) x3.toNatClampNeg), .int (M.1 (x0 + 2) x3.toNatClampNeg)]) (rest := []) 3 S C (c_X7_begins l D cy ad M x2 (M.1 (x0 + 1) x3.toNatClampNeg) (M.1 (x0 + 2) x3.toNatClampNeg) r4 hcr4) gX2_lastHolder_X7_begins_n52 rfl (by decide +kernel) knX2_lastHolder_X7_beginsi knX2_lastHolder_X7_beginss (by decide +kernel) (by decide) rfl hl.1 rfl (Nat.le_of_ble_eq_true rfl) dX2_lastHolder_28) (fun H locs C => ?_)
      refine lv_if_eq (tgt := 36) S.1 S.2.1 dX2_lastHolder_31 (by decide) (fun c5 => ?_) (fun c5 => ?_)
      · rw [if_pos c5] at hm
        obtain ⟨y6, ey6, hm⟩ := nmd_ok hm
        refine lv_iinc (v := y6) (lv' := [(3, .int y6), (0, .ref (ad x0)), (2, .int x2)]) S.1 S.2.1 dX2_lastHolder_36 hl (k := 2) rfl (by rw [ey6]; rfl) (by decide) rfl (fun ls hl => ?_)
        refine lv_goto (tgt := 11) S.1 S.2.1 dX2_lastHolder_39 (by decide) ?_
        exact ih _ _ C x0 hL0 x2 y6 ls (lv_sub hl [1, 2, 0] rfl) hm
      · rw [if_neg c5] at hm
        refine lv_iload_n S.1 S.2.1 dX2_lastHolder_34 rfl (lv_at hl 2 rfl) ?_
        exact gReti S hr hlk C (Option.some.inj hm) rfl dX2_lastHolder_35
set_option maxHeartbeats 4000000 in
set_option maxRecDepth 100000 in
theorem c_X2_lastHolder (l : Launch) (D : va_G) (cy : gCy) (ad : Nat → Nat) (M : gMem) (x0 : Nat) (hL0 : isL x0) (x1 : Int32) (x2 : Int32) (r0 : Int32) (hm : mX2_lastHolder M x0 x1 x2 = some r0) : Met l yX2_lastHolder wsX2_lastHolder (gR 3 65) (va_Pc [.ref (ad x0), .int x1, .int x2] (gP shC D cy ad M)) (gQi shC D cy ad r0 M) 0 0 (gA shC ad) := by
  refine gEnter (cc := cX2_lastHolder) (maxL := 4) (ret := (some .int)) (by decide) rfl (Nat.le_of_ble_eq_true rfl) ?_
  intro p e s m below meth c ls S hr hlk C hl
  have S : CallFix p m c cX2_lastHolder 4 s _ wsX2_lastHolder RX2 := S
  have hl : lv_has ls 4 [(0, .ref (ad x0)), (1, .int x1), (2, .int x2)] := hl
  rw [mX2_lastHolder] at hm
  refine lv_iload_n S.1 S.2.1 dX2_lastHolder_0 rfl (lv_at hl 1 rfl) ?_
  refine lv_aload_n S.1 S.2.1 dX2_lastHolder_1 rfl (lv_at hl 0 rfl) ?_
  refine g_get (k := x0) (ci := 2) (f := 4) (v := .int (M.1 x0 4))  S C kiX2_lastHolder_X2 kfX2_lastHolder_39 rfl (by decide) hL0.1 rfl rfl dX2_lastHolder_2 ?_
  refine va_mmin S.1 S.2.1 (S.2.2.1.trans hl.1.symm) S.2.2.2.1 (S.2.2.2.2 _ kmX2_lastHolder_55l) (S.2.2.2.2 _ kmX2_lastHolder_55s) (S.2.2.2.2 _ kmX2_lastHolder_55i) (S.2.2.2.2 _ kmX2_lastHolder_55c) (rest := []) (Nat.le_of_ble_eq_true rfl) (Nat.le_of_ble_eq_true rfl) (Nat.le_refl _) (Nat.le_refl _) dX2_lastHolder_5 ?_
  refine lv_iconst (v := (1 : Int32)) S.1 S.2.1 dX2_lastHolder_8 (by decide) ?_
  refine lv_isub S.1 S.2.1 dX2_lastHolder_9 ?_
  obtain ⟨y1, ey1, hm⟩ := nmd_ok hm
  refine gNmI ey1 ?_
  refine lv_istore_n (lv' := [(3, .int y1), (0, .ref (ad x0)), (1, .int x1), (2, .int x2)]) S.1 S.2.1 dX2_lastHolder_10 rfl hl (by decide) rfl (fun ls hl => ?_)
  exact wX2_lastHolder_11 S hr hlk FU _ _ C x0 hL0 x2 y1 ls (lv_sub hl [1, 3, 0] rfl) hm
set_option maxHeartbeats 4000000 in
set_option maxRecDepth 100000 in
theorem c_X2_goalAmong (l : Launch) (D : va_G) (cy : gCy) (ad : Nat → Nat) (M : gMem) (x0 : Nat) (hL0 : isL x0) (x1 : Int32) (x2 : Int32) (r0 : Int32) (hm : mX2_goalAmong M x0 x1 x2 = some r0) : Met l yX2_goalAmong wsX2_goalAmong (gR 4 88) (va_Pc [.ref (ad x0), .int x1, .int x2] (gP shC D cy ad M)) (gQi shC D cy ad r0 M) 0 0 (gA shC ad) := by
  refine gEnter (cc := cX2_goalAmong) (maxL := 4) (ret := (some .int)) (by decide) rfl (Nat.le_of_ble_eq_true rfl) ?_
  intro p e s m below meth c ls S hr hlk C hl
  have S : CallFix p m c cX2_goalAmong 4 s _ wsX2_goalAmong RX2 := S
  have hl : lv_has ls 4 [(0, .ref (ad x0)), (1, .int x1), (2, .int x2)] := hl
  rw [mX2_goalAmong] at hm
  refine lv_aload_n S.1 S.2.1 dX2_goalAmong_0 rfl (lv_at hl 0 rfl) ?_
  refine lv_iload_n S.1 S.2.1 dX2_goalAmong_1 rfl (lv_at hl 1 rfl) ?_
  refine lv_iload_n S.1 S.2.1 dX2_goalAmong_2 rfl (lv_at hl 2 rfl) ?_
  obtain ⟨r1, hcr1, hm⟩ := bd_ok hm
  refine gC_i C (gRV (k := x0) (ci := 2) (r := (RX2, TX2, 5)) (As := [.int x1, .int x2]) (rest := []) 2 S C (c_X2_lastHolder l D cy ad M x0 hL0 x1 x2 r1 hcr1) gX2_goalAmong_X2_lastHolder rfl (by decide +kernel) (by decide) hL0.1 rfl rfl rfl hl.1 rfl (Nat.le_of_ble_eq_true rfl) dX2_goalAmong_3) (fun H locs C => ?_)
  refine lv_istore_n (lv' := [(3, .int r1), (0, .ref (ad x0)), (1, .int x1), (2, .int x2)]) S.1 S.2.1 dX2_goalAmong_6 rfl hl (by decide) rfl (fun ls hl => ?_)
  refine lv_iload_n S.1 S.2.1 dX2_goalAmong_7 rfl (lv_at hl 0 rfl) ?_
  refine lv_iconst (v := (-1 : Int32)) S.1 S.2.1 dX2_goalAmong_8 (by decide) ?_
  refine lv_icmp_ne (tgt := 17) S.1 S.2.1 dX2_goalAmong_9 (by decide) (fun c2 => ?_) (fun c2 => ?_)
  · rw [if_neg c2] at hm
    refine lv_aload_n S.1 S.2.1 dX2_goalAmong_17 rfl (lv_at hl 1 rfl) ?_
    refine g_get (k := x0) (ci := 2) (f := 2) (v := .ref (ad (x0 + 3)))  S C kiX2_goalAmong_X2 kfX2_goalAmong_28 rfl (by decide) hL0.1 rfl rfl dX2_goalAmong_18 ?_
    refine lv_iload_n S.1 S.2.1 dX2_goalAmong_21 rfl (lv_at hl 0 rfl) ?_
    obtain ⟨h3, hm⟩ := ck_ok hm
    refine g_iald S C (k := (x0 + 3)) (hL0).2.2.2 h3 dX2_goalAmong_22 ?_
    exact gReti S hr hlk C (Option.some.inj hm) rfl dX2_goalAmong_23
  · rw [if_pos c2] at hm
    refine lv_bipush (v := (16 : Int32)) S.1 S.2.1 dX2_goalAmong_12 (by decide) ?_
    refine lv_goto (tgt := 23) S.1 S.2.1 dX2_goalAmong_14 (by decide) ?_
    exact gReti S hr hlk C (Option.some.inj hm) rfl dX2_goalAmong_23
set_option maxHeartbeats 4000000 in
set_option maxRecDepth 100000 in
theorem c_X2_clear (l : Launch) (D : va_G) (cy : gCy) (ad : Nat → Nat) (M : gMem) (x0 : Nat) (hL0 : isL x0) (r0 : gMem) (hm : mX2_clear M x0 = some r0) : Met l yX2_clear wsX2_clear (gR 0 0) (va_Pc [.ref (ad x0)] (gP shC D cy ad M)) (gQv shC D cy ad r0) 0 0 (gA shC ad) := by
  refine gEnter (cc := cX2_clear) (maxL := 1) (ret := none) (by decide) rfl (Nat.le_of_ble_eq_true rfl) ?_
  intro p e s m below meth c ls S hr hlk C hl
  have S : CallFix p m c cX2_clear 1 s _ wsX2_clear RX2 := S
  have hl : lv_has ls 1 [(0, .ref (ad x0))] := hl
  rw [mX2_clear] at hm
  refine lv_aload_n S.1 S.2.1 dX2_clear_0 rfl (lv_at hl 0 rfl) ?_
  refine lv_iconst (v := (0 : Int32)) S.1 S.2.1 dX2_clear_1 (by decide) ?_
  obtain ⟨M1, eM1, hm⟩ := nmd_ok hm
  refine g_put (M' := (sI M x0 4 (0 : Int32))) (k := x0) (ci := 2) (f := 4) (v := .int (0 : Int32)) (ty := .int) S C kiX2_clear_X2 tyX2 tyX2_ok nmX2 kfX2_clear_39 rfl (by decide) rfl (by decide +kernel) rfl rfl hL0.1 rfl (Nat.le_of_ble_eq_true rfl) (by rw [sI_at]; rfl) sI_off dX2_clear_2 (fun H locs C => ?_)
  rw [← eM1] at C
  exact gRetv S hr hlk C (Option.some.inj hm) dX2_clear_5
set_option maxHeartbeats 4000000 in
set_option maxRecDepth 100000 in
theorem c_X2_append (l : Launch) (D : va_G) (cy : gCy) (ad : Nat → Nat) (M : gMem) (x0 : Nat) (hL0 : isL x0) (x1 : Int32) (x2 : Int32) (x3 : Int32) (r0 : gMem) (hm : mX2_append M x0 x1 x2 x3 = some r0) : Met l yX2_append wsX2_append (gR 0 0) (va_Pc [.ref (ad x0), .int x1, .int x2, .int x3] (gP shC D cy ad M)) (gQv shC D cy ad r0) 0 0 (gA shC ad) := by
  refine gEnter (cc := cX2_append) (maxL := 4) (ret := none) (by decide) rfl (Nat.le_of_ble_eq_true rfl) ?_
  intro p e s m below meth c ls S hr hlk C hl
  have S : CallFix p m c cX2_append 4 s _ wsX2_append RX2 := S
  have hl : lv_has ls 4 [(0, .ref (ad x0)), (1, .int x1), (2, .int x2), (3, .int x3)] := hl
  rw [mX2_append] at hm
  refine lv_aload_n S.1 S.2.1 dX2_append_0 rfl (lv_at hl 0 rfl) ?_
  refine g_get (k := x0) (ci := 2) (f := 4) (v := .int (M.1 x0 4))  S C kiX2_append_X2 kfX2_append_39 rfl (by decide) hL0.1 rfl rfl dX2_append_1 ?_
  refine lv_aload_n S.1 S.2.1 dX2_append_4 rfl (lv_at hl 0 rfl) ?_
  refine g_get (k := x0) (ci := 2) (f := 3) (v := .int (M.1 x0 3))  S C kiX2_append_X2 kfX2_append_15 rfl (by decide) hL0.1 rfl rfl dX2_append_5 ?_
  refine lv_icmp_ge (tgt := 51) S.1 S.2.1 dX2_append_8 (by decide) (fun c1 => ?_) (fun c1 => ?_)
  · rw [if_pos c1] at hm
    exact gRetv S hr hlk C (Option.some.inj hm) dX2_append_51
  · rw [if_neg c1] at hm
    refine lv_aload_n S.1 S.2.1 dX2_append_11 rfl (lv_at hl 0 rfl) ?_
    refine g_get (k := x0) (ci := 2) (f := 0) (v := .ref (ad (x0 + 1)))  S C kiX2_append_X2 kfX2_append_21 rfl (by decide) hL0.1 rfl rfl dX2_append_12 ?_
    refine lv_aload_n S.1 S.2.1 dX2_append_15 rfl (lv_at hl 0 rfl) ?_
    refine g_get (k := x0) (ci := 2) (f := 4) (v := .int (M.1 x0 4))  S C kiX2_append_X2 kfX2_append_39 rfl (by decide) hL0.1 rfl rfl dX2_append_16 ?_
    refine lv_iload_n S.1 S.2.1 dX2_append_19 rfl (lv_at hl 1 rfl) ?_
    obtain ⟨h2, hm⟩ := ck_ok hm
    obtain ⟨M3, eM3, hm⟩ := nmd_ok hm
    refine g_iast S C (k := (x0 + 1)) (hL0).2.1 h2 dX2_append_20 (fun H locs C => ?_)
    rw [← eM3] at C
    refine lv_aload_n S.1 S.2.1 dX2_append_21 rfl (lv_at hl 0 rfl) ?_
    refine g_get (k := x0) (ci := 2) (f := 1) (v := .ref (ad (x0 + 2)))  S C kiX2_append_X2 kfX2_append_25 rfl (by decide) hL0.1 rfl rfl dX2_append_22 ?_
    refine lv_aload_n S.1 S.2.1 dX2_append_25 rfl (lv_at hl 0 rfl) ?_
    refine g_get (k := x0) (ci := 2) (f := 4) (v := .int (M3.1 x0 4))  S C kiX2_append_X2 kfX2_append_39 rfl (by decide) hL0.1 rfl rfl dX2_append_26 ?_
    refine lv_iload_n S.1 S.2.1 dX2_append_29 rfl (lv_at hl 2 rfl) ?_
    obtain ⟨h4, hm⟩ := ck_ok hm
    obtain ⟨M5, eM5, hm⟩ := nmd_ok hm
    refine g_iast S C (k := (x0 + 2)) (hL0).2.2.1 h4 dX2_append_30 (fun H locs C => ?_)
    rw [← eM5] at C
    refine lv_aload_n S.1 S.2.1 dX2_append_31 rfl (lv_at hl 0 rfl) ?_
    refine g_get (k := x0) (ci := 2) (f := 2) (v := .ref (ad (x0 + 3)))  S C kiX2_append_X2 kfX2_append_28 rfl (by decide) hL0.1 rfl rfl dX2_append_32 ?_
    refine lv_aload_n S.1 S.2.1 dX2_append_35 rfl (lv_at hl 0 rfl) ?_
    refine g_get (k := x0) (ci := 2) (f := 4) (v := .int (M5.1 x0 4))  S C kiX2_append_X2 kfX2_append_39 rfl (by decide) hL0.1 rfl rfl dX2_append_36 ?_
    refine lv_iload_n S.1 S.2.1 dX2_append_39 rfl (lv_at hl 3 rfl) ?_
    obtain ⟨h6, hm⟩ := ck_ok hm
    obtain ⟨M7, eM7, hm⟩ := nmd_ok hm
    refine g_iast S C (k := (x0 + 3)) (hL0).2.2.2 h6 dX2_append_40 (fun H locs C => ?_)
    rw [← eM7] at C
    refine lv_aload_n S.1 S.2.1 dX2_append_41 rfl (lv_at hl 0 rfl) ?_
    refine lv_dup S.1 S.2.1 dX2_append_42 rfl ?_
    refine g_get (k := x0) (ci := 2) (f := 4) (v := .int (M7.1 x0 4))  S C kiX2_append_X2 kfX2_append_39 rfl (by decide) hL0.1 rfl rfl dX2_append_43 ?_
    refine lv_iconst (v := (1 : Int32)) S.1 S.2.1 dX2_append_46 (by decide) ?_
    refine lv_iadd S.1 S.2.1 dX2_append_47 ?_
    obtain ⟨M8, eM8, hm⟩ := nmd_ok hm
    refine g_put (M' := (sI M7 x0 4 ((M7.1 x0 4) + (1 : Int32)))) (k := x0) (ci := 2) (f := 4) (v := .int ((M7.1 x0 4) + (1 : Int32))) (ty := .int) S C kiX2_append_X2 tyX2 tyX2_ok nmX2 kfX2_append_39 rfl (by decide) rfl (by decide +kernel) rfl rfl hL0.1 rfl (Nat.le_of_ble_eq_true rfl) (by rw [sI_at]; rfl) sI_off dX2_append_48 (fun H locs C => ?_)
    rw [← eM8] at C
    exact gRetv S hr hlk C (Option.some.inj hm) dX2_append_51
set_option maxHeartbeats 4000000 in
set_option maxRecDepth 100000 in
theorem c_X2_write (l : Launch) (D : va_G) (cy : gCy) (ad : Nat → Nat) (M : gMem) (x0 : Nat) (hL0 : isL x0) (x1 : Int32) (x2 : Int32) (x3 : Int32) (x4 : Int32) (r0 : gMem) (hm : mX2_write M x0 x1 x2 x3 x4 = some r0) : Met l yX2_write wsX2_write (gR 0 0) (va_Pc [.ref (ad x0), .int x1, .int x2, .int x3, .int x4] (gP shC D cy ad M)) (gQv shC D cy ad r0) 0 0 (gA shC ad) := by
  refine gEnter (cc := cX2_write) (maxL := 5) (ret := none) (by decide) rfl (Nat.le_of_ble_eq_true rfl) ?_
  intro p e s m below meth c ls S hr hlk C hl
  have S : CallFix p m c cX2_write 5 s _ wsX2_write RX2 := S
  have hl : lv_has ls 5 [(0, .ref (ad x0)), (1, .int x1), (2, .int x2), (3, .int x3), (4, .int x4)] := hl
  rw [mX2_write] at hm
  refine lv_aload_n S.1 S.2.1 dX2_write_0 rfl (lv_at hl 0 rfl) ?_
  refine g_get (k := x0) (ci := 2) (f := 0) (v := .ref (ad (x0 + 1)))  S C kiX2_write_X2 kfX2_write_21 rfl (by decide) hL0.1 rfl rfl dX2_write_1 ?_
  refine lv_iload_n S.1 S.2.1 dX2_write_4 rfl (lv_at hl 1 rfl) ?_
  refine lv_iload_n S.1 S.2.1 dX2_write_5 rfl (lv_at hl 2 rfl) ?_
  obtain ⟨h1, hm⟩ := ck_ok hm
  obtain ⟨M2, eM2, hm⟩ := nmd_ok hm
  refine g_iast S C (k := (x0 + 1)) (hL0).2.1 h1 dX2_write_6 (fun H locs C => ?_)
  rw [← eM2] at C
  refine lv_aload_n S.1 S.2.1 dX2_write_7 rfl (lv_at hl 0 rfl) ?_
  refine g_get (k := x0) (ci := 2) (f := 1) (v := .ref (ad (x0 + 2)))  S C kiX2_write_X2 kfX2_write_25 rfl (by decide) hL0.1 rfl rfl dX2_write_8 ?_
  refine lv_iload_n S.1 S.2.1 dX2_write_11 rfl (lv_at hl 1 rfl) ?_
  refine lv_iload_n S.1 S.2.1 dX2_write_12 rfl (lv_at hl 3 rfl) ?_
  obtain ⟨h3, hm⟩ := ck_ok hm
  obtain ⟨M4, eM4, hm⟩ := nmd_ok hm
  refine g_iast S C (k := (x0 + 2)) (hL0).2.2.1 h3 dX2_write_13 (fun H locs C => ?_)
  rw [← eM4] at C
  refine lv_aload_n S.1 S.2.1 dX2_write_14 rfl (lv_at hl 0 rfl) ?_
  refine g_get (k := x0) (ci := 2) (f := 2) (v := .ref (ad (x0 + 3)))  S C kiX2_write_X2 kfX2_write_28 rfl (by decide) hL0.1 rfl rfl dX2_write_15 ?_
  refine lv_iload_n S.1 S.2.1 dX2_write_18 rfl (lv_at hl 1 rfl) ?_
  refine lv_iload S.1 S.2.1 dX2_write_19 (lv_at hl 4 rfl) ?_
  obtain ⟨h5, hm⟩ := ck_ok hm
  obtain ⟨M6, eM6, hm⟩ := nmd_ok hm
  refine g_iast S C (k := (x0 + 3)) (hL0).2.2.2 h5 dX2_write_21 (fun H locs C => ?_)
  rw [← eM6] at C
  exact gRetv S hr hlk C (Option.some.inj hm) dX2_write_22
set_option maxHeartbeats 4000000 in
set_option maxRecDepth 100000 in
theorem wX2_insert_31 {p : Program} {l : Launch} {e : Env} {s : State} {m : MethodId} {args : Array Value} {below : List Frame} {meth : Method} {c : Code} {D : va_G} {cy : gCy} {ad : Nat → Nat} {r0 : (Int32 × gMem)} (S : CallFix p m c cX2_insert 6 s args wsX2_insert RX2) (hr : meth.sig.returnType = (some .boolean)) (hlk : meth.locks = false) : ∀ (n : Nat), ∀ (M : gMem) (H : Heap) (locs : List Loc), gW shC D cy ad s s.heap M H locs → ∀ (x0 : Nat) (hL0 : isL x0) (x1 : Int32) (x2 : Int32) (x3 : Int32) (x4 : Int32) (x5 : Int32), ∀ (ls : Array Slot), lv_has ls 6 [(0, .ref (ad x0)), (1, .int x1), (2, .int x2), (3, .int x3), (4, .int x4), (5, .int x5)] → mX2_insert_31 n M x0 x1 x2 x3 x4 x5 = some r0 → W p l e (gR 1 24) s m args below meth c H locs 0 0 (MQ below (gQi shC D cy ad r0.1 r0.2) args s 0 0 (gA shC ad)) (F0 m 31 ls []) := by
  intro n
  induction n with
  | zero => intro M H locs C x0 hL0 x1 x2 x3 x4 x5 ls hl hm; exact absurd hm (by simp [mX2_insert_31])
  | succ n ih =>
    intro M H locs C x0 hL0 x1 x2 x3 x4 x5 ls hl hm
    rw [mX2_insert_31] at hm
    refine lv_iload S.1 S.2.1 dX2_insert_31 (lv_at hl 5 rfl) ?_
    refine lv_iload_n S.1 S.2.1 dX2_insert_33 rfl (lv_at hl 1 rfl) ?_
    refine lv_icmp_le (tgt := 76) S.1 S.2.1 dX2_insert_34 (by decide) (fun c1 => ?_) (fun c1 => ?_)
    · rw [if_pos c1] at hm
      refine lv_aload_n S.1 S.2.1 dX2_insert_76 rfl (lv_at hl 0 rfl) ?_
      refine lv_iload_n S.1 S.2.1 dX2_insert_77 rfl (lv_at hl 1 rfl) ?_
      refine lv_iload_n S.1 S.2.1 dX2_insert_78 rfl (lv_at hl 2 rfl) ?_
      refine lv_iload_n S.1 S.2.1 dX2_insert_79 rfl (lv_at hl 3 rfl) ?_
      refine lv_iload S.1 S.2.1 dX2_insert_80 (lv_at hl 4 rfl) ?_
      obtain ⟨r2, hcr2, hm⟩ := bd_ok hm
      refine gC_v C (gRV (k := x0) (ci := 2) (r := (RX2, TX2, 5)) (As := [.int x1, .int x2, .int x3, .int x4]) (rest := []) 4 S C (c_X2_write l D cy ad M x0 hL0 x1 x2 x3 x4 r2 hcr2) gX2_insert_X2_write rfl (by decide +kernel) (by decide) hL0.1 rfl rfl rfl hl.1 rfl (Nat.le_of_ble_eq_true rfl) dX2_insert_82) (fun H locs C => ?_)
      refine lv_aload_n S.1 S.2.1 dX2_insert_85 rfl (lv_at hl 0 rfl) ?_
      refine lv_dup S.1 S.2.1 dX2_insert_86 rfl ?_
      refine g_get (k := x0) (ci := 2) (f := 4) (v := .int (r2.1 x0 4))  S C kiX2_insert_X2 kfX2_insert_39 rfl (by decide) hL0.1 rfl rfl dX2_insert_87 ?_
      refine lv_iconst (v := (1 : Int32)) S.1 S.2.1 dX2_insert_90 (by decide) ?_
      refine lv_iadd S.1 S.2.1 dX2_insert_91 ?_
      obtain ⟨M3, eM3, hm⟩ := nmd_ok hm
      refine g_put (M' := (sI r2 x0 4 ((r2.1 x0 4) + (1 : Int32)))) (k := x0) (ci := 2) (f := 4) (v := .int ((r2.1 x0 4) + (1 : Int32))) (ty := .int) S C kiX2_insert_X2 tyX2 tyX2_ok nmX2 kfX2_insert_39 rfl (by decide) rfl (by decide +kernel) rfl rfl hL0.1 rfl (Nat.le_of_ble_eq_true rfl) (by rw [sI_at]; rfl) sI_off dX2_insert_92 (fun H locs C => ?_)
      rw [← eM3] at C
      refine lv_iconst (v := (1 : Int32)) S.1 S.2.1 dX2_insert_95 (by decide) ?_
      exact gRetz S hr hlk C rfl (congrArg Prod.fst (Option.some.inj hm)) (congrArg Prod.snd (Option.some.inj hm)) dX2_insert_96
    · rw [if_neg c1] at hm
      refine lv_aload_n S.1 S.2.1 dX2_insert_37 rfl (lv_at hl 0 rfl) ?_
      refine lv_iload S.1 S.2.1 dX2_insert_38 (lv_at hl 5 rfl) ?_
      refine lv_aload_n S.1 S.2.1 dX2_insert_40 rfl (lv_at hl 0 rfl) ?_
      refine g_get (k := x0) (ci := 2) (f := 0) (v := .ref (ad (x0 + 1)))  S C kiX2_insert_X2 kfX2_insert_21 rfl (by decide) hL0.1 rfl rfl dX2_insert_41 ?_
      refine lv_iload S.1 S.2.1 dX2_insert_44 (lv_at hl 5 rfl) ?_
      refine lv_iconst (v := (1 : Int32)) S.1 S.2.1 dX2_insert_46 (by decide) ?_
      refine lv_isub S.1 S.2.1 dX2_insert_47 ?_
      obtain ⟨h4, hm⟩ := ck_ok hm
      refine g_iald S C (k := (x0 + 1)) (hL0).2.1 h4 dX2_insert_48 ?_
      refine lv_aload_n S.1 S.2.1 dX2_insert_49 rfl (lv_at hl 0 rfl) ?_
      refine g_get (k := x0) (ci := 2) (f := 1) (v := .ref (ad (x0 + 2)))  S C kiX2_insert_X2 kfX2_insert_25 rfl (by decide) hL0.1 rfl rfl dX2_insert_50 ?_
      refine lv_iload S.1 S.2.1 dX2_insert_53 (lv_at hl 5 rfl) ?_
      refine lv_iconst (v := (1 : Int32)) S.1 S.2.1 dX2_insert_55 (by decide) ?_
      refine lv_isub S.1 S.2.1 dX2_insert_56 ?_
      obtain ⟨h5, hm⟩ := ck_ok hm
      refine g_iald S C (k := (x0 + 2)) (hL0).2.2.1 h5 dX2_insert_57 ?_
      refine lv_aload_n S.1 S.2.1 dX2_insert_58 rfl (lv_at hl 0 rfl) ?_
      refine g_get (k := x0) (ci := 2) (f := 2) (v := .ref (ad (x0 + 3)))  S C kiX2_insert_X2 kfX2_insert_28 rfl (by decide) hL0.1 rfl rfl dX2_insert_59 ?_
      refine lv_iload S.1 S.2.1 dX2_insert_62 (lv_at hl 5 rfl) ?_
      refine lv_iconst (v := (1 : Int32)) S.1 S.2.1 dX2_insert_64 (by decide) ?_
      refine lv_isub S.1 S.2.1 dX2_insert_65 ?_
      obtain ⟨h6, hm⟩ := ck_ok hm
      refine g_iald S C (k := (x0 + 3)) (hL0).2.2.2 h6 dX2_insert_66 ?_
      obtain ⟨r7, hcr7, hm⟩ := bd_ok hm
      refine gC_v C (gRV (k := x0) (ci := 2) (r := (RX2, TX2, 5)) (As := [.int x5, .int (M.1 (x0 + 1) (x5 - (1 : Int32)).toNatClampNeg), .int (M.1 (x0 + 2) (x5 - (1 : Int32)).toNatClampNeg), .int (M.1 (x0 + 3) (x5 - (1 : Int32)).toNatClampNeg)]) (rest := []) 4 S C (c_X2_write l D cy ad M x0 hL0 x5 (M.1 (x0 + 1) (x5 - (1 : Int32)).toNatClampNeg) (M.1 (x0 + 2) (x5 - (1 : Int32)).toNatClampNeg) (M.1 (x0 + 3) (x5 - (1 : Int32)).toNatClampNeg) r7 hcr7) gX2_insert_X2_write rfl (by decide +kernel) (by decide) hL0.1 rfl rfl rfl hl.1 rfl (Nat.le_of_ble_eq_true rfl) dX2_insert_67) (fun H locs C => ?_)
      obtain ⟨y8, ey8, hm⟩ := nmd_ok hm
      refine lv_iinc (v := y8) (lv' := [(5, .int y8), (0, .ref (ad x0)), (1, .int x1), (2, .int x2), (3, .int x3), (4, .int x4)]) S.1 S.2.1 dX2_insert_70 hl (k := 5) rfl (by rw [ey8]; rfl) (by decide) rfl (fun ls hl => ?_)
      refine lv_goto (tgt := 31) S.1 S.2.1 dX2_insert_73 (by decide) ?_
      exact ih r7 _ _ C x0 hL0 x1 x2 x3 x4 y8 ls (lv_sub hl [1, 2, 3, 4, 5, 0] rfl) hm
set_option maxHeartbeats 4000000 in
set_option maxRecDepth 100000 in
theorem c_X2_insert (l : Launch) (D : va_G) (cy : gCy) (ad : Nat → Nat) (M : gMem) (x0 : Nat) (hL0 : isL x0) (x1 : Int32) (x2 : Int32) (x3 : Int32) (x4 : Int32) (r0 : (Int32 × gMem)) (hm : mX2_insert M x0 x1 x2 x3 x4 = some r0) : Met l yX2_insert wsX2_insert (gR 1 24) (va_Pc [.ref (ad x0), .int x1, .int x2, .int x3, .int x4] (gP shC D cy ad M)) (gQi shC D cy ad r0.1 r0.2) 0 0 (gA shC ad) := by
  refine gEnter (cc := cX2_insert) (maxL := 6) (ret := (some .boolean)) (by decide) rfl (Nat.le_of_ble_eq_true rfl) ?_
  intro p e s m below meth c ls S hr hlk C hl
  have S : CallFix p m c cX2_insert 6 s _ wsX2_insert RX2 := S
  have hl : lv_has ls 6 [(0, .ref (ad x0)), (1, .int x1), (2, .int x2), (3, .int x3), (4, .int x4)] := hl
  rw [mX2_insert] at hm
  refine lv_aload_n S.1 S.2.1 dX2_insert_0 rfl (lv_at hl 0 rfl) ?_
  refine g_get (k := x0) (ci := 2) (f := 4) (v := .int (M.1 x0 4))  S C kiX2_insert_X2 kfX2_insert_39 rfl (by decide) hL0.1 rfl rfl dX2_insert_1 ?_
  refine lv_aload_n S.1 S.2.1 dX2_insert_4 rfl (lv_at hl 0 rfl) ?_
  refine g_get (k := x0) (ci := 2) (f := 3) (v := .int (M.1 x0 3))  S C kiX2_insert_X2 kfX2_insert_15 rfl (by decide) hL0.1 rfl rfl dX2_insert_5 ?_
  refine lv_icmp_ge (tgt := 23) S.1 S.2.1 dX2_insert_8 (by decide) (fun c1 => ?_) (fun c1 => ?_)
  · rw [if_pos c1] at hm
    refine lv_iconst (v := (0 : Int32)) S.1 S.2.1 dX2_insert_23 (by decide) ?_
    exact gRetz S hr hlk C rfl (congrArg Prod.fst (Option.some.inj hm)) (congrArg Prod.snd (Option.some.inj hm)) dX2_insert_24
  · rw [if_neg c1] at hm
    refine lv_iload_n S.1 S.2.1 dX2_insert_11 rfl (lv_at hl 1 rfl) ?_
    refine lv_if_lt (tgt := 23) S.1 S.2.1 dX2_insert_12 (by decide) (fun c2 => ?_) (fun c2 => ?_)
    · rw [if_pos c2] at hm
      refine lv_iconst (v := (0 : Int32)) S.1 S.2.1 dX2_insert_23 (by decide) ?_
      exact gRetz S hr hlk C rfl (congrArg Prod.fst (Option.some.inj hm)) (congrArg Prod.snd (Option.some.inj hm)) dX2_insert_24
    · rw [if_neg c2] at hm
      refine lv_iload_n S.1 S.2.1 dX2_insert_15 rfl (lv_at hl 1 rfl) ?_
      refine lv_aload_n S.1 S.2.1 dX2_insert_16 rfl (lv_at hl 0 rfl) ?_
      refine g_get (k := x0) (ci := 2) (f := 4) (v := .int (M.1 x0 4))  S C kiX2_insert_X2 kfX2_insert_39 rfl (by decide) hL0.1 rfl rfl dX2_insert_17 ?_
      refine lv_icmp_le (tgt := 25) S.1 S.2.1 dX2_insert_20 (by decide) (fun c3 => ?_) (fun c3 => ?_)
      · rw [if_pos c3] at hm
        refine lv_aload_n S.1 S.2.1 dX2_insert_25 rfl (lv_at hl 0 rfl) ?_
        refine g_get (k := x0) (ci := 2) (f := 4) (v := .int (M.1 x0 4))  S C kiX2_insert_X2 kfX2_insert_39 rfl (by decide) hL0.1 rfl rfl dX2_insert_26 ?_
        obtain ⟨y4, ey4, hm⟩ := nmd_ok hm
        refine gNmI ey4 ?_
        refine lv_istore (lv' := [(5, .int y4), (0, .ref (ad x0)), (1, .int x1), (2, .int x2), (3, .int x3), (4, .int x4)]) S.1 S.2.1 dX2_insert_29 hl (by decide) rfl (fun ls hl => ?_)
        exact wX2_insert_31 S hr hlk FU M _ _ C x0 hL0 x1 x2 x3 x4 y4 ls (lv_sub hl [1, 2, 3, 4, 5, 0] rfl) hm
      · rw [if_neg c3] at hm
        refine lv_iconst (v := (0 : Int32)) S.1 S.2.1 dX2_insert_23 (by decide) ?_
        exact gRetz S hr hlk C rfl (congrArg Prod.fst (Option.some.inj hm)) (congrArg Prod.snd (Option.some.inj hm)) dX2_insert_24
set_option maxHeartbeats 4000000 in
set_option maxRecDepth 100000 in
theorem wX2_removeAt_25 {p : Program} {l : Launch} {e : Env} {s : State} {m : MethodId} {args : Array Value} {below : List Frame} {meth : Method} {c : Code} {D : va_G} {cy : gCy} {ad : Nat → Nat} {r0 : gMem} (S : CallFix p m c cX2_removeAt 3 s args wsX2_removeAt RX2) (hr : meth.sig.returnType = none) (hlk : meth.locks = false) : ∀ (n : Nat), ∀ (M : gMem) (H : Heap) (locs : List Loc), gW shC D cy ad s s.heap M H locs → ∀ (x0 : Nat) (hL0 : isL x0) (x2 : Int32), ∀ (ls : Array Slot), lv_has ls 3 [(0, .ref (ad x0)), (2, .int x2)] → mX2_removeAt_25 n M x0 x2 = some r0 → W p l e (gR 1 24) s m args below meth c H locs 0 0 (MQ below (gQv shC D cy ad r0) args s 0 0 (gA shC ad)) (F0 m 25 ls []) := by
  intro n
  induction n with
  | zero => intro M H locs C x0 hL0 x2 ls hl hm; exact absurd hm (by simp [mX2_removeAt_25])
  | succ n ih =>
    intro M H locs C x0 hL0 x2 ls hl hm
    rw [mX2_removeAt_25] at hm
    refine lv_iload_n S.1 S.2.1 dX2_removeAt_25 rfl (lv_at hl 1 rfl) ?_
    refine lv_aload_n S.1 S.2.1 dX2_removeAt_26 rfl (lv_at hl 0 rfl) ?_
    refine g_get (k := x0) (ci := 2) (f := 4) (v := .int (M.1 x0 4))  S C kiX2_removeAt_X2 kfX2_removeAt_39 rfl (by decide) hL0.1 rfl rfl dX2_removeAt_27 ?_
    refine lv_icmp_ge (tgt := 68) S.1 S.2.1 dX2_removeAt_30 (by decide) (fun c1 => ?_) (fun c1 => ?_)
    · rw [if_pos c1] at hm
      exact gRetv S hr hlk C (Option.some.inj hm) dX2_removeAt_68
    · rw [if_neg c1] at hm
      refine lv_aload_n S.1 S.2.1 dX2_removeAt_33 rfl (lv_at hl 0 rfl) ?_
      refine lv_iload_n S.1 S.2.1 dX2_removeAt_34 rfl (lv_at hl 1 rfl) ?_
      refine lv_aload_n S.1 S.2.1 dX2_removeAt_35 rfl (lv_at hl 0 rfl) ?_
      refine g_get (k := x0) (ci := 2) (f := 0) (v := .ref (ad (x0 + 1)))  S C kiX2_removeAt_X2 kfX2_removeAt_21 rfl (by decide) hL0.1 rfl rfl dX2_removeAt_36 ?_
      refine lv_iload_n S.1 S.2.1 dX2_removeAt_39 rfl (lv_at hl 1 rfl) ?_
      refine lv_iconst (v := (1 : Int32)) S.1 S.2.1 dX2_removeAt_40 (by decide) ?_
      refine lv_iadd S.1 S.2.1 dX2_removeAt_41 ?_
      obtain ⟨h2, hm⟩ := ck_ok hm
      refine g_iald S C (k := (x0 + 1)) (hL0).2.1 h2 dX2_removeAt_42 ?_
      refine lv_aload_n S.1 S.2.1 dX2_removeAt_43 rfl (lv_at hl 0 rfl) ?_
      refine g_get (k := x0) (ci := 2) (f := 1) (v := .ref (ad (x0 + 2)))  S C kiX2_removeAt_X2 kfX2_removeAt_25 rfl (by decide) hL0.1 rfl rfl dX2_removeAt_44 ?_
      refine lv_iload_n S.1 S.2.1 dX2_removeAt_47 rfl (lv_at hl 1 rfl) ?_
      refine lv_iconst (v := (1 : Int32)) S.1 S.2.1 dX2_removeAt_48 (by decide) ?_
      refine lv_iadd S.1 S.2.1 dX2_removeAt_49 ?_
      obtain ⟨h3, hm⟩ := ck_ok hm
      refine g_iald S C (k := (x0 + 2)) (hL0).2.2.1 h3 dX2_removeAt_50 ?_
      refine lv_aload_n S.1 S.2.1 dX2_removeAt_51 rfl (lv_at hl 0 rfl) ?_
      refine g_get (k := x0) (ci := 2) (f := 2) (v := .ref (ad (x0 + 3)))  S C kiX2_removeAt_X2 kfX2_removeAt_28 rfl (by decide) hL0.1 rfl rfl dX2_removeAt_52 ?_
      refine lv_iload_n S.1 S.2.1 dX2_removeAt_55 rfl (lv_at hl 1 rfl) ?_
      refine lv_iconst (v := (1 : Int32)) S.1 S.2.1 dX2_removeAt_56 (by decide) ?_
      refine lv_iadd S.1 S.2.1 dX2_removeAt_57 ?_
      obtain ⟨h4, hm⟩ := ck_ok hm
      refine g_iald S C (k := (x0 + 3)) (hL0).2.2.2 h4 dX2_removeAt_58 ?_
      obtain ⟨r5, hcr5, hm⟩ := bd_ok hm
      refine gC_v C (gRV (k := x0) (ci := 2) (r := (RX2, TX2, 5)) (As := [.int x2, .int (M.1 (x0 + 1) (x2 + (1 : Int32)).toNatClampNeg), .int (M.1 (x0 + 2) (x2 + (1 : Int32)).toNatClampNeg), .int (M.1 (x0 + 3) (x2 + (1 : Int32)).toNatClampNeg)]) (rest := []) 4 S C (c_X2_write l D cy ad M x0 hL0 x2 (M.1 (x0 + 1) (x2 + (1 : Int32)).toNatClampNeg) (M.1 (x0 + 2) (x2 + (1 : Int32)).toNatClampNeg) (M.1 (x0 + 3) (x2 + (1 : Int32)).toNatClampNeg) r5 hcr5) gX2_removeAt_X2_write rfl (by decide +kernel) (by decide) hL0.1 rfl rfl rfl hl.1 rfl (Nat.le_of_ble_eq_true rfl) dX2_removeAt_59) (fun H locs C => ?_)
      obtain ⟨y6, ey6, hm⟩ := nmd_ok hm
      refine lv_iinc (v := y6) (lv' := [(2, .int y6), (0, .ref (ad x0))]) S.1 S.2.1 dX2_removeAt_62 hl (k := 1) rfl (by rw [ey6]; rfl) (by decide) rfl (fun ls hl => ?_)
      refine lv_goto (tgt := 25) S.1 S.2.1 dX2_removeAt_65 (by decide) ?_
      exact ih r5 _ _ C x0 hL0 y6 ls (lv_sub hl [1, 0] rfl) hm
set_option maxHeartbeats 4000000 in
set_option maxRecDepth 100000 in
theorem c_X2_removeAt (l : Launch) (D : va_G) (cy : gCy) (ad : Nat → Nat) (M : gMem) (x0 : Nat) (hL0 : isL x0) (x1 : Int32) (r0 : gMem) (hm : mX2_removeAt M x0 x1 = some r0) : Met l yX2_removeAt wsX2_removeAt (gR 1 24) (va_Pc [.ref (ad x0), .int x1] (gP shC D cy ad M)) (gQv shC D cy ad r0) 0 0 (gA shC ad) := by
  refine gEnter (cc := cX2_removeAt) (maxL := 3) (ret := none) (by decide) rfl (Nat.le_of_ble_eq_true rfl) ?_
  intro p e s m below meth c ls S hr hlk C hl
  have S : CallFix p m c cX2_removeAt 3 s _ wsX2_removeAt RX2 := S
  have hl : lv_has ls 3 [(0, .ref (ad x0)), (1, .int x1)] := hl
  rw [mX2_removeAt] at hm
  refine lv_iload_n S.1 S.2.1 dX2_removeAt_0 rfl (lv_at hl 1 rfl) ?_
  refine lv_if_lt (tgt := 12) S.1 S.2.1 dX2_removeAt_1 (by decide) (fun c1 => ?_) (fun c1 => ?_)
  · rw [if_pos c1] at hm
    exact gRetv S hr hlk C (Option.some.inj hm) dX2_removeAt_12
  · rw [if_neg c1] at hm
    refine lv_iload_n S.1 S.2.1 dX2_removeAt_4 rfl (lv_at hl 1 rfl) ?_
    refine lv_aload_n S.1 S.2.1 dX2_removeAt_5 rfl (lv_at hl 0 rfl) ?_
    refine g_get (k := x0) (ci := 2) (f := 4) (v := .int (M.1 x0 4))  S C kiX2_removeAt_X2 kfX2_removeAt_39 rfl (by decide) hL0.1 rfl rfl dX2_removeAt_6 ?_
    refine lv_icmp_lt (tgt := 13) S.1 S.2.1 dX2_removeAt_9 (by decide) (fun c2 => ?_) (fun c2 => ?_)
    · rw [if_pos c2] at hm
      refine lv_aload_n S.1 S.2.1 dX2_removeAt_13 rfl (lv_at hl 0 rfl) ?_
      refine lv_dup S.1 S.2.1 dX2_removeAt_14 rfl ?_
      refine g_get (k := x0) (ci := 2) (f := 4) (v := .int (M.1 x0 4))  S C kiX2_removeAt_X2 kfX2_removeAt_39 rfl (by decide) hL0.1 rfl rfl dX2_removeAt_15 ?_
      refine lv_iconst (v := (1 : Int32)) S.1 S.2.1 dX2_removeAt_18 (by decide) ?_
      refine lv_isub S.1 S.2.1 dX2_removeAt_19 ?_
      obtain ⟨M3, eM3, hm⟩ := nmd_ok hm
      refine g_put (M' := (sI M x0 4 ((M.1 x0 4) - (1 : Int32)))) (k := x0) (ci := 2) (f := 4) (v := .int ((M.1 x0 4) - (1 : Int32))) (ty := .int) S C kiX2_removeAt_X2 tyX2 tyX2_ok nmX2 kfX2_removeAt_39 rfl (by decide) rfl (by decide +kernel) rfl rfl hL0.1 rfl (Nat.le_of_ble_eq_true rfl) (by rw [sI_at]; rfl) sI_off dX2_removeAt_20 (fun H locs C => ?_)
      rw [← eM3] at C
      refine lv_iload_n S.1 S.2.1 dX2_removeAt_23 rfl (lv_at hl 1 rfl) ?_
      refine lv_istore_n (lv' := [(2, .int x1), (0, .ref (ad x0)), (1, .int x1)]) S.1 S.2.1 dX2_removeAt_24 rfl hl (by decide) rfl (fun ls hl => ?_)
      exact wX2_removeAt_25 S hr hlk FU M3 _ _ C x0 hL0 x1 ls (lv_sub hl [1, 0] rfl) hm
    · rw [if_neg c2] at hm
      exact gRetv S hr hlk C (Option.some.inj hm) dX2_removeAt_12
set_option maxHeartbeats 4000000 in
set_option maxRecDepth 100000 in
theorem wX2_become_14 {p : Program} {l : Launch} {e : Env} {s : State} {m : MethodId} {args : Array Value} {below : List Frame} {meth : Method} {c : Code} {D : va_G} {cy : gCy} {ad : Nat → Nat} {r0 : gMem} (S : CallFix p m c cX2_become 4 s args wsX2_become RX2) (hr : meth.sig.returnType = none) (hlk : meth.locks = false) : ∀ (n : Nat), ∀ (M : gMem) (H : Heap) (locs : List Loc), gW shC D cy ad s s.heap M H locs → ∀ (x0 : Nat) (hL0 : isL x0) (x1 : Nat) (hL1 : isL x1) (x2 : Int32) (x3 : Int32), ∀ (ls : Array Slot), lv_has ls 4 [(0, .ref (ad x0)), (1, .ref (ad x1)), (2, .int x2), (3, .int x3)] → mX2_become_14 n M x0 x1 x2 x3 = some r0 → W p l e (gR 1 24) s m args below meth c H locs 0 0 (MQ below (gQv shC D cy ad r0) args s 0 0 (gA shC ad)) (F0 m 14 ls []) := by
  intro n
  induction n with
  | zero => intro M H locs C x0 hL0 x1 hL1 x2 x3 ls hl hm; exact absurd hm (by simp [mX2_become_14])
  | succ n ih =>
    intro M H locs C x0 hL0 x1 hL1 x2 x3 ls hl hm
    rw [mX2_become_14] at hm
    refine lv_iload_n S.1 S.2.1 dX2_become_14 rfl (lv_at hl 3 rfl) ?_
    refine lv_iload_n S.1 S.2.1 dX2_become_15 rfl (lv_at hl 2 rfl) ?_
    refine lv_icmp_ge (tgt := 48) S.1 S.2.1 dX2_become_16 (by decide) (fun c1 => ?_) (fun c1 => ?_)
    · rw [if_pos c1] at hm
      refine lv_aload_n S.1 S.2.1 dX2_become_48 rfl (lv_at hl 0 rfl) ?_
      refine lv_iload_n S.1 S.2.1 dX2_become_49 rfl (lv_at hl 2 rfl) ?_
      obtain ⟨M2, eM2, hm⟩ := nmd_ok hm
      refine g_put (M' := (sI M x0 4 x2)) (k := x0) (ci := 2) (f := 4) (v := .int x2) (ty := .int) S C kiX2_become_X2 tyX2 tyX2_ok nmX2 kfX2_become_39 rfl (by decide) rfl (by decide +kernel) rfl rfl hL0.1 rfl (Nat.le_of_ble_eq_true rfl) (by rw [sI_at]; rfl) sI_off dX2_become_50 (fun H locs C => ?_)
      rw [← eM2] at C
      exact gRetv S hr hlk C (Option.some.inj hm) dX2_become_53
    · rw [if_neg c1] at hm
      refine lv_aload_n S.1 S.2.1 dX2_become_19 rfl (lv_at hl 0 rfl) ?_
      refine lv_iload_n S.1 S.2.1 dX2_become_20 rfl (lv_at hl 3 rfl) ?_
      refine lv_aload_n S.1 S.2.1 dX2_become_21 rfl (lv_at hl 1 rfl) ?_
      refine g_get (k := x1) (ci := 2) (f := 0) (v := .ref (ad (x1 + 1)))  S C kiX2_become_X2 kfX2_become_21 rfl (by decide) hL1.1 rfl rfl dX2_become_22 ?_
      refine lv_iload_n S.1 S.2.1 dX2_become_25 rfl (lv_at hl 3 rfl) ?_
      obtain ⟨h3, hm⟩ := ck_ok hm
      refine g_iald S C (k := (x1 + 1)) (hL1).2.1 h3 dX2_become_26 ?_
      refine lv_aload_n S.1 S.2.1 dX2_become_27 rfl (lv_at hl 1 rfl) ?_
      refine g_get (k := x1) (ci := 2) (f := 1) (v := .ref (ad (x1 + 2)))  S C kiX2_become_X2 kfX2_become_25 rfl (by decide) hL1.1 rfl rfl dX2_become_28 ?_
      refine lv_iload_n S.1 S.2.1 dX2_become_31 rfl (lv_at hl 3 rfl) ?_
      obtain ⟨h4, hm⟩ := ck_ok hm
      refine g_iald S C (k := (x1 + 2)) (hL1).2.2.1 h4 dX2_become_32 ?_
      refine lv_aload_n S.1 S.2.1 dX2_become_33 rfl (lv_at hl 1 rfl) ?_
      refine g_get (k := x1) (ci := 2) (f := 2) (v := .ref (ad (x1 + 3)))  S C kiX2_become_X2 kfX2_become_28 rfl (by decide) hL1.1 rfl rfl dX2_become_34 ?_
      refine lv_iload_n S.1 S.2.1 dX2_become_37 rfl (lv_at hl 3 rfl) ?_
      obtain ⟨h5, hm⟩ := ck_ok hm
      refine g_iald S C (k := (x1 + 3)) (hL1).2.2.2 h5 dX2_become_38 ?_
      obtain ⟨r6, hcr6, hm⟩ := bd_ok hm
      refine gC_v C (gRV (k := x0) (ci := 2) (r := (RX2, TX2, 5)) (As := [.int x3, .int (M.1 (x1 + 1) x3.toNatClampNeg), .int (M.1 (x1 + 2) x3.toNatClampNeg), .int (M.1 (x1 + 3) x3.toNatClampNeg)]) (rest := []) 4 S C (c_X2_write l D cy ad M x0 hL0 x3 (M.1 (x1 + 1) x3.toNatClampNeg) (M.1 (x1 + 2) x3.toNatClampNeg) (M.1 (x1 + 3) x3.toNatClampNeg) r6 hcr6) gX2_become_X2_write rfl (by decide +kernel) (by decide) hL0.1 rfl rfl rfl hl.1 rfl (Nat.le_of_ble_eq_true rfl) dX2_become_39) (fun H locs C => ?_)
      obtain ⟨y7, ey7, hm⟩ := nmd_ok hm
      refine lv_iinc (v := y7) (lv' := [(3, .int y7), (0, .ref (ad x0)), (1, .ref (ad x1)), (2, .int x2)]) S.1 S.2.1 dX2_become_42 hl (k := 3) rfl (by rw [ey7]; rfl) (by decide) rfl (fun ls hl => ?_)
      refine lv_goto (tgt := 14) S.1 S.2.1 dX2_become_45 (by decide) ?_
      exact ih r6 _ _ C x0 hL0 x1 hL1 x2 y7 ls (lv_sub hl [1, 2, 3, 0] rfl) hm
set_option maxHeartbeats 4000000 in
set_option maxRecDepth 100000 in
theorem c_X2_become (l : Launch) (D : va_G) (cy : gCy) (ad : Nat → Nat) (M : gMem) (x0 : Nat) (hL0 : isL x0) (x1 : Nat) (hL1 : isL x1) (r0 : gMem) (hm : mX2_become M x0 x1 = some r0) : Met l yX2_become wsX2_become (gR 1 24) (va_Pc [.ref (ad x0), .ref (ad x1)] (gP shC D cy ad M)) (gQv shC D cy ad r0) 0 0 (gA shC ad) := by
  refine gEnter (cc := cX2_become) (maxL := 4) (ret := none) (by decide) rfl (Nat.le_of_ble_eq_true rfl) ?_
  intro p e s m below meth c ls S hr hlk C hl
  have S : CallFix p m c cX2_become 4 s _ wsX2_become RX2 := S
  have hl : lv_has ls 4 [(0, .ref (ad x0)), (1, .ref (ad x1))] := hl
  rw [mX2_become] at hm
  refine lv_aload_n S.1 S.2.1 dX2_become_0 rfl (lv_at hl 1 rfl) ?_
  refine g_get (k := x1) (ci := 2) (f := 4) (v := .int (M.1 x1 4))  S C kiX2_become_X2 kfX2_become_39 rfl (by decide) hL1.1 rfl rfl dX2_become_1 ?_
  refine lv_aload_n S.1 S.2.1 dX2_become_4 rfl (lv_at hl 0 rfl) ?_
  refine g_get (k := x0) (ci := 2) (f := 3) (v := .int (M.1 x0 3))  S C kiX2_become_X2 kfX2_become_15 rfl (by decide) hL0.1 rfl rfl dX2_become_5 ?_
  refine va_mmin S.1 S.2.1 (S.2.2.1.trans hl.1.symm) S.2.2.2.1 (S.2.2.2.2 _ kmX2_become_55l) (S.2.2.2.2 _ kmX2_become_55s) (S.2.2.2.2 _ kmX2_become_55i) (S.2.2.2.2 _ kmX2_become_55c) (rest := []) (Nat.le_of_ble_eq_true rfl) (Nat.le_of_ble_eq_true rfl) (Nat.le_refl _) (Nat.le_refl _) dX2_become_8 ?_
  obtain ⟨y1, ey1, hm⟩ := nmd_ok hm
  refine gNmI ey1 ?_
  refine lv_istore_n (lv' := [(2, .int y1), (0, .ref (ad x0)), (1, .ref (ad x1))]) S.1 S.2.1 dX2_become_11 rfl hl (by decide) rfl (fun ls hl => ?_)
  refine lv_iconst (v := (0 : Int32)) S.1 S.2.1 dX2_become_12 (by decide) ?_
  refine lv_istore_n (lv' := [(3, .int (0 : Int32)), (2, .int y1), (0, .ref (ad x0)), (1, .ref (ad x1))]) S.1 S.2.1 dX2_become_13 rfl hl (by decide) rfl (fun ls hl => ?_)
  exact wX2_become_14 S hr hlk FU M _ _ C x0 hL0 x1 hL1 y1 (0 : Int32) ls (lv_sub hl [2, 3, 1, 0] rfl) hm
set_option maxHeartbeats 4000000 in
set_option maxRecDepth 100000 in
theorem c_X2_mixed (l : Launch) (D : va_G) (cy : gCy) (ad : Nat → Nat) (M : gMem) (x0 : Int32) (x1 : Int32) (x2 : Int32) (r0 : Int32) (hm : mX2_mixed x0 x1 x2 = some r0) : Met l yX2_mixed wsX2_mixed (gR 0 0) (va_Pc [.int x0, .int x1, .int x2] (gP shC D cy ad M)) (gQi shC D cy ad r0 M) 0 0 (gA shC ad) := by
  refine gEnter (cc := cX2_mixed) (maxL := 3) (ret := (some .int)) (by decide) rfl (Nat.le_of_ble_eq_true rfl) ?_
  intro p e s m below meth c ls S hr hlk C hl
  have S : CallFix p m c cX2_mixed 3 s _ wsX2_mixed RX2 := S
  have hl : lv_has ls 3 [(0, .int x0), (1, .int x1), (2, .int x2)] := hl
  rw [mX2_mixed] at hm
  refine lv_iload_n S.1 S.2.1 dX2_mixed_0 rfl (lv_at hl 0 rfl) ?_
  refine lv_if_ne (tgt := 16) S.1 S.2.1 dX2_mixed_1 (by decide) (fun c1 => ?_) (fun c1 => ?_)
  · rw [if_neg c1] at hm
    refine lv_iload_n S.1 S.2.1 dX2_mixed_16 rfl (lv_at hl 0 rfl) ?_
    refine lv_iconst (v := (1 : Int32)) S.1 S.2.1 dX2_mixed_17 (by decide) ?_
    refine lv_icmp_ne (tgt := 33) S.1 S.2.1 dX2_mixed_18 (by decide) (fun c2 => ?_) (fun c2 => ?_)
    · rw [if_neg c2] at hm
      refine lv_iload_n S.1 S.2.1 dX2_mixed_33 rfl (lv_at hl 2 rfl) ?_
      refine lv_bipush (v := (16 : Int32)) S.1 S.2.1 dX2_mixed_34 (by decide) ?_
      refine lv_icmp_ne (tgt := 43) S.1 S.2.1 dX2_mixed_36 (by decide) (fun c3 => ?_) (fun c3 => ?_)
      · rw [if_neg c3] at hm
        refine lv_bipush (v := (16 : Int32)) S.1 S.2.1 dX2_mixed_43 (by decide) ?_
        exact gReti S hr hlk C (Option.some.inj hm) rfl dX2_mixed_45
      · rw [if_pos c3] at hm
        refine lv_iload_n S.1 S.2.1 dX2_mixed_39 rfl (lv_at hl 1 rfl) ?_
        refine lv_goto (tgt := 45) S.1 S.2.1 dX2_mixed_40 (by decide) ?_
        exact gReti S hr hlk C (Option.some.inj hm) rfl dX2_mixed_45
    · rw [if_pos c2] at hm
      refine lv_iload_n S.1 S.2.1 dX2_mixed_21 rfl (lv_at hl 1 rfl) ?_
      refine lv_iload_n S.1 S.2.1 dX2_mixed_22 rfl (lv_at hl 2 rfl) ?_
      refine lv_icmp_ne (tgt := 30) S.1 S.2.1 dX2_mixed_23 (by decide) (fun c4 => ?_) (fun c4 => ?_)
      · rw [if_neg c4] at hm
        refine lv_bipush (v := (16 : Int32)) S.1 S.2.1 dX2_mixed_30 (by decide) ?_
        exact gReti S hr hlk C (Option.some.inj hm) rfl dX2_mixed_32
      · rw [if_pos c4] at hm
        refine lv_iload_n S.1 S.2.1 dX2_mixed_26 rfl (lv_at hl 1 rfl) ?_
        refine lv_goto (tgt := 32) S.1 S.2.1 dX2_mixed_27 (by decide) ?_
        exact gReti S hr hlk C (Option.some.inj hm) rfl dX2_mixed_32
  · rw [if_pos c1] at hm
    refine lv_iload_n S.1 S.2.1 dX2_mixed_4 rfl (lv_at hl 1 rfl) ?_
    refine lv_bipush (v := (16 : Int32)) S.1 S.2.1 dX2_mixed_5 (by decide) ?_
    refine lv_icmp_eq (tgt := 14) S.1 S.2.1 dX2_mixed_7 (by decide) (fun c5 => ?_) (fun c5 => ?_)
    · rw [if_pos c5] at hm
      refine lv_iload_n S.1 S.2.1 dX2_mixed_14 rfl (lv_at hl 2 rfl) ?_
      exact gReti S hr hlk C (Option.some.inj hm) rfl dX2_mixed_15
    · rw [if_neg c5] at hm
      refine lv_iload_n S.1 S.2.1 dX2_mixed_10 rfl (lv_at hl 1 rfl) ?_
      refine lv_goto (tgt := 15) S.1 S.2.1 dX2_mixed_11 (by decide) ?_
      exact gReti S hr hlk C (Option.some.inj hm) rfl dX2_mixed_15
set_option maxHeartbeats 4000000 in
set_option maxRecDepth 100000 in
theorem wX2_merge_167 {p : Program} {l : Launch} {e : Env} {s : State} {m : MethodId} {args : Array Value} {below : List Frame} {meth : Method} {c : Code} {D : va_G} {cy : gCy} {ad : Nat → Nat} {r0 : gMem} (S : CallFix p m c cX2_merge 10 s args wsX2_merge RX2) (hr : meth.sig.returnType = none) (hlk : meth.locks = false) {k13 : gMem → Nat → Nat → Nat → Int32 → Int32 → Int32 → Int32 → Option gMem} (kk13 : ∀ (M : gMem) (H : Heap) (locs : List Loc), gW shC D cy ad s s.heap M H locs → ∀ (x0 : Nat) (hL0 : isL x0) (x1 : Nat) (hL1 : isL x1) (x2 : Nat) (hL2 : isL x2) (x3 : Int32) (x4 : Int32) (x5 : Int32) (x6 : Int32), ∀ (ls : Array Slot), lv_has ls 10 [(0, .ref (ad x0)), (1, .ref (ad x1)), (2, .ref (ad x2)), (3, .int x3), (4, .int x4), (5, .int x5), (6, .int x6)] → k13 M x0 x1 x2 x3 x4 x5 x6 = some r0 → W p l e (gR 5 111) s m args below meth c H locs 0 0 (MQ below (gQv shC D cy ad r0) args s 0 0 (gA shC ad)) (F0 m 13 ls [])) : ∀ (M : gMem) (H : Heap) (locs : List Loc), gW shC D cy ad s s.heap M H locs → ∀ (x0 : Nat) (hL0 : isL x0) (x1 : Nat) (hL1 : isL x1) (x2 : Nat) (hL2 : isL x2) (x3 : Int32) (x4 : Int32) (x5 : Int32) (x6 : Int32) (x8 : Int32) (x9 : Int32), ∀ (ls : Array Slot), lv_has ls 10 [(0, .ref (ad x0)), (1, .ref (ad x1)), (2, .ref (ad x2)), (3, .int x3), (4, .int x4), (5, .int x5), (6, .int x6), (8, .int x8), (9, .int x9)] → mX2_merge_167 k13 M x0 x1 x2 x3 x4 x5 x6 x8 x9 = some r0 → W p l e (gR 5 111) s m args below meth c H locs 0 0 (MQ below (gQv shC D cy ad r0) args s 0 0 (gA shC ad)) (F0 m 167 ls []) := by
  intro M H locs C x0 hL0 x1 hL1 x2 hL2 x3 x4 x5 x6 x8 x9 ls hl hm
  rw [mX2_merge_167] at hm
  refine lv_aload_n S.1 S.2.1 dX2_merge_167 rfl (lv_at hl 0 rfl) ?_
  refine lv_iload S.1 S.2.1 dX2_merge_168 (lv_at hl 7 rfl) ?_
  refine lv_iload S.1 S.2.1 dX2_merge_170 (lv_at hl 8 rfl) ?_
  refine lv_iload_n S.1 S.2.1 dX2_merge_172 rfl (lv_at hl 3 rfl) ?_
  refine lv_aload_n S.1 S.2.1 dX2_merge_173 rfl (lv_at hl 1 rfl) ?_
  refine lv_iload S.1 S.2.1 dX2_merge_174 (lv_at hl 4 rfl) ?_
  refine lv_iload S.1 S.2.1 dX2_merge_176 (lv_at hl 7 rfl) ?_
  obtain ⟨r1, hcr1, hm⟩ := bd_ok hm
  refine gC_i C (gRV (k := x1) (ci := 2) (r := (RX2, TX2, 5)) (As := [.int x4, .int x8]) (rest := [.int x3, .int x9, .int x8, .ref (ad x0)]) 2 S C (c_X2_goalAmong l D cy ad M x1 hL1 x4 x8 r1 hcr1) gX2_merge_X2_goalAmong rfl (by decide +kernel) (by decide) hL1.1 rfl rfl rfl hl.1 rfl (Nat.le_of_ble_eq_true rfl) dX2_merge_178) (fun H locs C => ?_)
  refine lv_aload_n S.1 S.2.1 dX2_merge_181 rfl (lv_at hl 2 rfl) ?_
  refine lv_iload S.1 S.2.1 dX2_merge_182 (lv_at hl 5 rfl) ?_
  refine lv_iload S.1 S.2.1 dX2_merge_184 (lv_at hl 7 rfl) ?_
  obtain ⟨r2, hcr2, hm⟩ := bd_ok hm
  refine gC_i C (gRV (k := x2) (ci := 2) (r := (RX2, TX2, 5)) (As := [.int x5, .int x8]) (rest := [.int r1, .int x3, .int x9, .int x8, .ref (ad x0)]) 2 S C (c_X2_goalAmong l D cy ad M x2 hL2 x5 x8 r2 hcr2) gX2_merge_X2_goalAmong rfl (by decide +kernel) (by decide) hL2.1 rfl rfl rfl hl.1 rfl (Nat.le_of_ble_eq_true rfl) dX2_merge_186) (fun H locs C => ?_)
  obtain ⟨r3, hcr3, hm⟩ := bd_ok hm
  refine gC_i C (gRS (As := [.int x3, .int r1, .int r2]) (rest := [.int x9, .int x8, .ref (ad x0)]) 3 S C (c_X2_mixed l D cy ad M x3 r1 r2 r3 hcr3) gX2_merge_X2_mixed rfl (by decide +kernel) (by decide) rfl hl.1 rfl (Nat.le_of_ble_eq_true rfl) dX2_merge_189) (fun H locs C => ?_)
  obtain ⟨r4, hcr4, hm⟩ := bd_ok hm
  refine gC_v C (gRV (k := x0) (ci := 2) (r := (RX2, TX2, 5)) (As := [.int x8, .int x9, .int r3]) (rest := []) 3 S C (c_X2_append l D cy ad M x0 hL0 x8 x9 r3 r4 hcr4) gX2_merge_X2_append rfl (by decide +kernel) (by decide) hL0.1 rfl rfl rfl hl.1 rfl (Nat.le_of_ble_eq_true rfl) dX2_merge_192) (fun H locs C => ?_)
  obtain ⟨y5, ey5, hm⟩ := nmd_ok hm
  refine lv_iinc (v := y5) (lv' := [(6, .int y5), (0, .ref (ad x0)), (1, .ref (ad x1)), (2, .ref (ad x2)), (3, .int x3), (4, .int x4), (5, .int x5), (8, .int x8), (9, .int x9)]) S.1 S.2.1 dX2_merge_195 hl (k := 6) rfl (by rw [ey5]; rfl) (by decide) rfl (fun ls hl => ?_)
  refine lv_goto (tgt := 13) S.1 S.2.1 dX2_merge_198 (by decide) ?_
  exact kk13 r4 _ _ C x0 hL0 x1 hL1 x2 hL2 x3 x4 x5 y5 ls (lv_sub hl [1, 2, 3, 4, 5, 6, 0] rfl) hm
set_option maxHeartbeats 4000000 in
set_option maxRecDepth 100000 in
theorem wX2_merge_133 {p : Program} {l : Launch} {e : Env} {s : State} {m : MethodId} {args : Array Value} {below : List Frame} {meth : Method} {c : Code} {D : va_G} {cy : gCy} {ad : Nat → Nat} {r0 : gMem} (S : CallFix p m c cX2_merge 10 s args wsX2_merge RX2) (hr : meth.sig.returnType = none) (hlk : meth.locks = false) {k13 : gMem → Nat → Nat → Nat → Int32 → Int32 → Int32 → Int32 → Option gMem} (kk13 : ∀ (M : gMem) (H : Heap) (locs : List Loc), gW shC D cy ad s s.heap M H locs → ∀ (x0 : Nat) (hL0 : isL x0) (x1 : Nat) (hL1 : isL x1) (x2 : Nat) (hL2 : isL x2) (x3 : Int32) (x4 : Int32) (x5 : Int32) (x6 : Int32), ∀ (ls : Array Slot), lv_has ls 10 [(0, .ref (ad x0)), (1, .ref (ad x1)), (2, .ref (ad x2)), (3, .int x3), (4, .int x4), (5, .int x5), (6, .int x6)] → k13 M x0 x1 x2 x3 x4 x5 x6 = some r0 → W p l e (gR 5 111) s m args below meth c H locs 0 0 (MQ below (gQv shC D cy ad r0) args s 0 0 (gA shC ad)) (F0 m 13 ls [])) : ∀ (M : gMem) (H : Heap) (locs : List Loc), gW shC D cy ad s s.heap M H locs → ∀ (x0 : Nat) (hL0 : isL x0) (x1 : Nat) (hL1 : isL x1) (x2 : Nat) (hL2 : isL x2) (x3 : Int32) (x4 : Int32) (x5 : Int32) (x6 : Int32) (x8 : Int32) (z0 : Int32), ∀ (ls : Array Slot), lv_has ls 10 [(0, .ref (ad x0)), (1, .ref (ad x1)), (2, .ref (ad x2)), (3, .int x3), (4, .int x4), (5, .int x5), (6, .int x6), (8, .int x8)] → mX2_merge_133 k13 M x0 x1 x2 x3 x4 x5 x6 x8 z0 = some r0 → W p l e (gR 5 111) s m args below meth c H locs 0 0 (MQ below (gQv shC D cy ad r0) args s 0 0 (gA shC ad)) (F0 m 133 ls [.int z0]) := by
  intro M H locs C x0 hL0 x1 hL1 x2 hL2 x3 x4 x5 x6 x8 z0 ls hl hm
  rw [mX2_merge_133] at hm
  refine lv_istore (lv' := [(9, .int z0), (0, .ref (ad x0)), (1, .ref (ad x1)), (2, .ref (ad x2)), (3, .int x3), (4, .int x4), (5, .int x5), (6, .int x6), (8, .int x8)]) S.1 S.2.1 dX2_merge_133 hl (by decide) rfl (fun ls hl => ?_)
  refine lv_aload_n S.1 S.2.1 dX2_merge_135 rfl (lv_at hl 2 rfl) ?_
  refine lv_iload S.1 S.2.1 dX2_merge_136 (lv_at hl 5 rfl) ?_
  refine lv_iload S.1 S.2.1 dX2_merge_138 (lv_at hl 8 rfl) ?_
  refine lv_iload S.1 S.2.1 dX2_merge_140 (lv_at hl 0 rfl) ?_
  obtain ⟨r1, hcr1, hm⟩ := bd_ok hm
  refine gC_i C (gRV (k := x1) (ci := 2) (r := (RX2, TX2, 5)) (As := [.int x4, .int x8, .int z0]) (rest := []) 3 S C (c_X2_isAt l D cy ad M x1 hL1 x4 x8 z0 r1 hcr1) gX2_merge_X2_isAt rfl (by decide +kernel) (by decide) hL1.1 rfl rfl rfl hl.1 rfl (Nat.le_of_ble_eq_true rfl) dX2_merge_142) (fun H locs C => ?_)
  refine lv_if_eq (tgt := 151) S.1 S.2.1 dX2_merge_145 (by decide) (fun c2 => ?_) (fun c2 => ?_)
  · rw [if_pos c2] at hm
    refine lv_aload_n S.1 S.2.1 dX2_merge_151 rfl (lv_at hl 3 rfl) ?_
    refine lv_iload S.1 S.2.1 dX2_merge_152 (lv_at hl 6 rfl) ?_
    refine lv_iload S.1 S.2.1 dX2_merge_154 (lv_at hl 8 rfl) ?_
    refine lv_iload S.1 S.2.1 dX2_merge_156 (lv_at hl 0 rfl) ?_
    obtain ⟨r3, hcr3, hm⟩ := bd_ok hm
    refine gC_i C (gRV (k := x2) (ci := 2) (r := (RX2, TX2, 5)) (As := [.int x5, .int x8, .int z0]) (rest := []) 3 S C (c_X2_isAt l D cy ad M x2 hL2 x5 x8 z0 r3 hcr3) gX2_merge_X2_isAt rfl (by decide +kernel) (by decide) hL2.1 rfl rfl rfl hl.1 rfl (Nat.le_of_ble_eq_true rfl) dX2_merge_158) (fun H locs C => ?_)
    refine lv_if_eq (tgt := 167) S.1 S.2.1 dX2_merge_161 (by decide) (fun c4 => ?_) (fun c4 => ?_)
    · rw [if_pos c4] at hm
      exact wX2_merge_167 S hr hlk kk13 M _ _ C x0 hL0 x1 hL1 x2 hL2 x3 x4 x5 x6 x8 z0 ls (lv_sub hl [1, 2, 3, 4, 5, 6, 7, 8, 0] rfl) hm
    · rw [if_neg c4] at hm
      obtain ⟨y5, ey5, hm⟩ := nmd_ok hm
      refine lv_iinc (v := y5) (lv' := [(5, .int y5), (9, .int z0), (0, .ref (ad x0)), (1, .ref (ad x1)), (2, .ref (ad x2)), (3, .int x3), (4, .int x4), (6, .int x6), (8, .int x8)]) S.1 S.2.1 dX2_merge_164 hl (k := 6) rfl (by rw [ey5]; rfl) (by decide) rfl (fun ls hl => ?_)
      exact wX2_merge_167 S hr hlk kk13 M _ _ C x0 hL0 x1 hL1 x2 hL2 x3 x4 y5 x6 x8 z0 ls (lv_sub hl [2, 3, 4, 5, 6, 0, 7, 8, 1] rfl) hm
  · rw [if_neg c2] at hm
    obtain ⟨y6, ey6, hm⟩ := nmd_ok hm
    refine lv_iinc (v := y6) (lv' := [(4, .int y6), (9, .int z0), (0, .ref (ad x0)), (1, .ref (ad x1)), (2, .ref (ad x2)), (3, .int x3), (5, .int x5), (6, .int x6), (8, .int x8)]) S.1 S.2.1 dX2_merge_148 hl (k := 5) rfl (by rw [ey6]; rfl) (by decide) rfl (fun ls hl => ?_)
    refine lv_aload_n S.1 S.2.1 dX2_merge_151 rfl (lv_at hl 4 rfl) ?_
    refine lv_iload S.1 S.2.1 dX2_merge_152 (lv_at hl 6 rfl) ?_
    refine lv_iload S.1 S.2.1 dX2_merge_154 (lv_at hl 8 rfl) ?_
    refine lv_iload S.1 S.2.1 dX2_merge_156 (lv_at hl 1 rfl) ?_
    obtain ⟨r7, hcr7, hm⟩ := bd_ok hm
    refine gC_i C (gRV (k := x2) (ci := 2) (r := (RX2, TX2, 5)) (As := [.int x5, .int x8, .int z0]) (rest := []) 3 S C (c_X2_isAt l D cy ad M x2 hL2 x5 x8 z0 r7 hcr7) gX2_merge_X2_isAt rfl (by decide +kernel) (by decide) hL2.1 rfl rfl rfl hl.1 rfl (Nat.le_of_ble_eq_true rfl) dX2_merge_158) (fun H locs C => ?_)
    refine lv_if_eq (tgt := 167) S.1 S.2.1 dX2_merge_161 (by decide) (fun c8 => ?_) (fun c8 => ?_)
    · rw [if_pos c8] at hm
      exact wX2_merge_167 S hr hlk kk13 M _ _ C x0 hL0 x1 hL1 x2 hL2 x3 y6 x5 x6 x8 z0 ls (lv_sub hl [2, 3, 4, 5, 0, 6, 7, 8, 1] rfl) hm
    · rw [if_neg c8] at hm
      obtain ⟨y9, ey9, hm⟩ := nmd_ok hm
      refine lv_iinc (v := y9) (lv' := [(5, .int y9), (4, .int y6), (9, .int z0), (0, .ref (ad x0)), (1, .ref (ad x1)), (2, .ref (ad x2)), (3, .int x3), (6, .int x6), (8, .int x8)]) S.1 S.2.1 dX2_merge_164 hl (k := 6) rfl (by rw [ey9]; rfl) (by decide) rfl (fun ls hl => ?_)
      exact wX2_merge_167 S hr hlk kk13 M _ _ C x0 hL0 x1 hL1 x2 hL2 x3 y6 y9 x6 x8 z0 ls (lv_sub hl [3, 4, 5, 6, 1, 0, 7, 8, 2] rfl) hm
set_option maxHeartbeats 4000000 in
set_option maxRecDepth 100000 in
theorem wX2_merge_109 {p : Program} {l : Launch} {e : Env} {s : State} {m : MethodId} {args : Array Value} {below : List Frame} {meth : Method} {c : Code} {D : va_G} {cy : gCy} {ad : Nat → Nat} {r0 : gMem} (S : CallFix p m c cX2_merge 10 s args wsX2_merge RX2) (hr : meth.sig.returnType = none) (hlk : meth.locks = false) {k13 : gMem → Nat → Nat → Nat → Int32 → Int32 → Int32 → Int32 → Option gMem} (kk13 : ∀ (M : gMem) (H : Heap) (locs : List Loc), gW shC D cy ad s s.heap M H locs → ∀ (x0 : Nat) (hL0 : isL x0) (x1 : Nat) (hL1 : isL x1) (x2 : Nat) (hL2 : isL x2) (x3 : Int32) (x4 : Int32) (x5 : Int32) (x6 : Int32), ∀ (ls : Array Slot), lv_has ls 10 [(0, .ref (ad x0)), (1, .ref (ad x1)), (2, .ref (ad x2)), (3, .int x3), (4, .int x4), (5, .int x5), (6, .int x6)] → k13 M x0 x1 x2 x3 x4 x5 x6 = some r0 → W p l e (gR 5 111) s m args below meth c H locs 0 0 (MQ below (gQv shC D cy ad r0) args s 0 0 (gA shC ad)) (F0 m 13 ls [])) : ∀ (M : gMem) (H : Heap) (locs : List Loc), gW shC D cy ad s s.heap M H locs → ∀ (x0 : Nat) (hL0 : isL x0) (x1 : Nat) (hL1 : isL x1) (x2 : Nat) (hL2 : isL x2) (x3 : Int32) (x4 : Int32) (x5 : Int32) (x6 : Int32) (x7 : Int32) (z0 : Int32), ∀ (ls : Array Slot), lv_has ls 10 [(0, .ref (ad x0)), (1, .ref (ad x1)), (2, .ref (ad x2)), (3, .int x3), (4, .int x4), (5, .int x5), (6, .int x6), (7, .int x7)] → mX2_merge_109 k13 M x0 x1 x2 x3 x4 x5 x6 x7 z0 = some r0 → W p l e (gR 5 111) s m args below meth c H locs 0 0 (MQ below (gQv shC D cy ad r0) args s 0 0 (gA shC ad)) (F0 m 109 ls [.int z0]) := by
  intro M H locs C x0 hL0 x1 hL1 x2 hL2 x3 x4 x5 x6 x7 z0 ls hl hm
  rw [mX2_merge_109] at hm
  refine lv_istore (lv' := [(8, .int z0), (0, .ref (ad x0)), (1, .ref (ad x1)), (2, .ref (ad x2)), (3, .int x3), (4, .int x4), (5, .int x5), (6, .int x6), (7, .int x7)]) S.1 S.2.1 dX2_merge_109 hl (by decide) rfl (fun ls hl => ?_)
  refine lv_iload S.1 S.2.1 dX2_merge_111 (lv_at hl 8 rfl) ?_
  refine lv_if_eq (tgt := 126) S.1 S.2.1 dX2_merge_113 (by decide) (fun c1 => ?_) (fun c1 => ?_)
  · rw [if_pos c1] at hm
    refine lv_aload_n S.1 S.2.1 dX2_merge_126 rfl (lv_at hl 3 rfl) ?_
    refine g_get (k := x2) (ci := 2) (f := 1) (v := .ref (ad (x2 + 2)))  S C kiX2_merge_X2 kfX2_merge_25 rfl (by decide) hL2.1 rfl rfl dX2_merge_127 ?_
    refine lv_iload S.1 S.2.1 dX2_merge_130 (lv_at hl 6 rfl) ?_
    obtain ⟨h2, hm⟩ := ck_ok hm
    refine g_iald S C (k := (x2 + 2)) (hL2).2.2.1 h2 dX2_merge_132 ?_
    exact wX2_merge_133 S hr hlk kk13 M _ _ C x0 hL0 x1 hL1 x2 hL2 x3 x4 x5 x6 z0 (M.1 (x2 + 2) x5.toNatClampNeg) ls (lv_sub hl [1, 2, 3, 4, 5, 6, 7, 0] rfl) hm
  · rw [if_neg c1] at hm
    refine lv_aload_n S.1 S.2.1 dX2_merge_116 rfl (lv_at hl 2 rfl) ?_
    refine g_get (k := x1) (ci := 2) (f := 1) (v := .ref (ad (x1 + 2)))  S C kiX2_merge_X2 kfX2_merge_25 rfl (by decide) hL1.1 rfl rfl dX2_merge_117 ?_
    refine lv_iload S.1 S.2.1 dX2_merge_120 (lv_at hl 5 rfl) ?_
    obtain ⟨h3, hm⟩ := ck_ok hm
    refine g_iald S C (k := (x1 + 2)) (hL1).2.2.1 h3 dX2_merge_122 ?_
    refine lv_goto (tgt := 133) S.1 S.2.1 dX2_merge_123 (by decide) ?_
    exact wX2_merge_133 S hr hlk kk13 M _ _ C x0 hL0 x1 hL1 x2 hL2 x3 x4 x5 x6 z0 (M.1 (x1 + 2) x4.toNatClampNeg) ls (lv_sub hl [1, 2, 3, 4, 5, 6, 7, 0] rfl) hm
set_option maxHeartbeats 4000000 in
set_option maxRecDepth 100000 in
theorem wX2_merge_85 {p : Program} {l : Launch} {e : Env} {s : State} {m : MethodId} {args : Array Value} {below : List Frame} {meth : Method} {c : Code} {D : va_G} {cy : gCy} {ad : Nat → Nat} {r0 : gMem} (S : CallFix p m c cX2_merge 10 s args wsX2_merge RX2) (hr : meth.sig.returnType = none) (hlk : meth.locks = false) {k13 : gMem → Nat → Nat → Nat → Int32 → Int32 → Int32 → Int32 → Option gMem} (kk13 : ∀ (M : gMem) (H : Heap) (locs : List Loc), gW shC D cy ad s s.heap M H locs → ∀ (x0 : Nat) (hL0 : isL x0) (x1 : Nat) (hL1 : isL x1) (x2 : Nat) (hL2 : isL x2) (x3 : Int32) (x4 : Int32) (x5 : Int32) (x6 : Int32), ∀ (ls : Array Slot), lv_has ls 10 [(0, .ref (ad x0)), (1, .ref (ad x1)), (2, .ref (ad x2)), (3, .int x3), (4, .int x4), (5, .int x5), (6, .int x6)] → k13 M x0 x1 x2 x3 x4 x5 x6 = some r0 → W p l e (gR 5 111) s m args below meth c H locs 0 0 (MQ below (gQv shC D cy ad r0) args s 0 0 (gA shC ad)) (F0 m 13 ls [])) : ∀ (M : gMem) (H : Heap) (locs : List Loc), gW shC D cy ad s s.heap M H locs → ∀ (x0 : Nat) (hL0 : isL x0) (x1 : Nat) (hL1 : isL x1) (x2 : Nat) (hL2 : isL x2) (x3 : Int32) (x4 : Int32) (x5 : Int32) (x6 : Int32) (z0 : Int32), ∀ (ls : Array Slot), lv_has ls 10 [(0, .ref (ad x0)), (1, .ref (ad x1)), (2, .ref (ad x2)), (3, .int x3), (4, .int x4), (5, .int x5), (6, .int x6)] → mX2_merge_85 k13 M x0 x1 x2 x3 x4 x5 x6 z0 = some r0 → W p l e (gR 5 111) s m args below meth c H locs 0 0 (MQ below (gQv shC D cy ad r0) args s 0 0 (gA shC ad)) (F0 m 85 ls [.int z0]) := by
  intro M H locs C x0 hL0 x1 hL1 x2 hL2 x3 x4 x5 x6 z0 ls hl hm
  rw [mX2_merge_85] at hm
  refine lv_istore (lv' := [(7, .int z0), (0, .ref (ad x0)), (1, .ref (ad x1)), (2, .ref (ad x2)), (3, .int x3), (4, .int x4), (5, .int x5), (6, .int x6)]) S.1 S.2.1 dX2_merge_85 hl (by decide) rfl (fun ls hl => ?_)
  refine lv_iload S.1 S.2.1 dX2_merge_87 (lv_at hl 0 rfl) ?_
  refine lv_if_eq (tgt := 102) S.1 S.2.1 dX2_merge_89 (by decide) (fun c1 => ?_) (fun c1 => ?_)
  · rw [if_pos c1] at hm
    refine lv_aload_n S.1 S.2.1 dX2_merge_102 rfl (lv_at hl 3 rfl) ?_
    refine g_get (k := x2) (ci := 2) (f := 0) (v := .ref (ad (x2 + 1)))  S C kiX2_merge_X2 kfX2_merge_21 rfl (by decide) hL2.1 rfl rfl dX2_merge_103 ?_
    refine lv_iload S.1 S.2.1 dX2_merge_106 (lv_at hl 6 rfl) ?_
    obtain ⟨h2, hm⟩ := ck_ok hm
    refine g_iald S C (k := (x2 + 1)) (hL2).2.1 h2 dX2_merge_108 ?_
    exact wX2_merge_109 S hr hlk kk13 M _ _ C x0 hL0 x1 hL1 x2 hL2 x3 x4 x5 x6 z0 (M.1 (x2 + 1) x5.toNatClampNeg) ls (lv_sub hl [1, 2, 3, 4, 5, 6, 7, 0] rfl) hm
  · rw [if_neg c1] at hm
    refine lv_aload_n S.1 S.2.1 dX2_merge_92 rfl (lv_at hl 2 rfl) ?_
    refine g_get (k := x1) (ci := 2) (f := 0) (v := .ref (ad (x1 + 1)))  S C kiX2_merge_X2 kfX2_merge_21 rfl (by decide) hL1.1 rfl rfl dX2_merge_93 ?_
    refine lv_iload S.1 S.2.1 dX2_merge_96 (lv_at hl 5 rfl) ?_
    obtain ⟨h3, hm⟩ := ck_ok hm
    refine g_iald S C (k := (x1 + 1)) (hL1).2.1 h3 dX2_merge_98 ?_
    refine lv_goto (tgt := 109) S.1 S.2.1 dX2_merge_99 (by decide) ?_
    exact wX2_merge_109 S hr hlk kk13 M _ _ C x0 hL0 x1 hL1 x2 hL2 x3 x4 x5 x6 z0 (M.1 (x1 + 1) x4.toNatClampNeg) ls (lv_sub hl [1, 2, 3, 4, 5, 6, 7, 0] rfl) hm
set_option maxHeartbeats 4000000 in
set_option maxRecDepth 100000 in
theorem wX2_merge_39 {p : Program} {l : Launch} {e : Env} {s : State} {m : MethodId} {args : Array Value} {below : List Frame} {meth : Method} {c : Code} {D : va_G} {cy : gCy} {ad : Nat → Nat} {r0 : gMem} (S : CallFix p m c cX2_merge 10 s args wsX2_merge RX2) (hr : meth.sig.returnType = none) (hlk : meth.locks = false) {k13 : gMem → Nat → Nat → Nat → Int32 → Int32 → Int32 → Int32 → Option gMem} (kk13 : ∀ (M : gMem) (H : Heap) (locs : List Loc), gW shC D cy ad s s.heap M H locs → ∀ (x0 : Nat) (hL0 : isL x0) (x1 : Nat) (hL1 : isL x1) (x2 : Nat) (hL2 : isL x2) (x3 : Int32) (x4 : Int32) (x5 : Int32) (x6 : Int32), ∀ (ls : Array Slot), lv_has ls 10 [(0, .ref (ad x0)), (1, .ref (ad x1)), (2, .ref (ad x2)), (3, .int x3), (4, .int x4), (5, .int x5), (6, .int x6)] → k13 M x0 x1 x2 x3 x4 x5 x6 = some r0 → W p l e (gR 5 111) s m args below meth c H locs 0 0 (MQ below (gQv shC D cy ad r0) args s 0 0 (gA shC ad)) (F0 m 13 ls [])) : ∀ (M : gMem) (H : Heap) (locs : List Loc), gW shC D cy ad s s.heap M H locs → ∀ (x0 : Nat) (hL0 : isL x0) (x1 : Nat) (hL1 : isL x1) (x2 : Nat) (hL2 : isL x2) (x3 : Int32) (x4 : Int32) (x5 : Int32) (x6 : Int32), ∀ (ls : Array Slot), lv_has ls 10 [(0, .ref (ad x0)), (1, .ref (ad x1)), (2, .ref (ad x2)), (3, .int x3), (4, .int x4), (5, .int x5), (6, .int x6)] → mX2_merge_39 k13 M x0 x1 x2 x3 x4 x5 x6 = some r0 → W p l e (gR 5 111) s m args below meth c H locs 0 0 (MQ below (gQv shC D cy ad r0) args s 0 0 (gA shC ad)) (F0 m 39 ls []) := by
  intro M H locs C x0 hL0 x1 hL1 x2 hL2 x3 x4 x5 x6 ls hl hm
  rw [mX2_merge_39] at hm
  refine lv_iload S.1 S.2.1 dX2_merge_39 (lv_at hl 5 rfl) ?_
  refine lv_aload_n S.1 S.2.1 dX2_merge_41 rfl (lv_at hl 2 rfl) ?_
  refine g_get (k := x2) (ci := 2) (f := 4) (v := .int (M.1 x2 4))  S C kiX2_merge_X2 kfX2_merge_39 rfl (by decide) hL2.1 rfl rfl dX2_merge_42 ?_
  refine lv_icmp_ge (tgt := 80) S.1 S.2.1 dX2_merge_45 (by decide) (fun c1 => ?_) (fun c1 => ?_)
  · rw [if_pos c1] at hm
    refine lv_iconst (v := (1 : Int32)) S.1 S.2.1 dX2_merge_80 (by decide) ?_
    refine lv_goto (tgt := 85) S.1 S.2.1 dX2_merge_81 (by decide) ?_
    exact wX2_merge_85 S hr hlk kk13 M _ _ C x0 hL0 x1 hL1 x2 hL2 x3 x4 x5 x6 (1 : Int32) ls (lv_sub hl [0, 1, 2, 3, 4, 5, 6] rfl) hm
  · rw [if_neg c1] at hm
    refine lv_iload S.1 S.2.1 dX2_merge_48 (lv_at hl 4 rfl) ?_
    refine lv_aload_n S.1 S.2.1 dX2_merge_50 rfl (lv_at hl 1 rfl) ?_
    refine g_get (k := x1) (ci := 2) (f := 4) (v := .int (M.1 x1 4))  S C kiX2_merge_X2 kfX2_merge_39 rfl (by decide) hL1.1 rfl rfl dX2_merge_51 ?_
    refine lv_icmp_ge (tgt := 84) S.1 S.2.1 dX2_merge_54 (by decide) (fun c2 => ?_) (fun c2 => ?_)
    · rw [if_pos c2] at hm
      refine lv_iconst (v := (0 : Int32)) S.1 S.2.1 dX2_merge_84 (by decide) ?_
      exact wX2_merge_85 S hr hlk kk13 M _ _ C x0 hL0 x1 hL1 x2 hL2 x3 x4 x5 x6 (0 : Int32) ls (lv_sub hl [0, 1, 2, 3, 4, 5, 6] rfl) hm
    · rw [if_neg c2] at hm
      refine lv_aload_n S.1 S.2.1 dX2_merge_57 rfl (lv_at hl 2 rfl) ?_
      refine lv_iload S.1 S.2.1 dX2_merge_58 (lv_at hl 5 rfl) ?_
      refine lv_aload_n S.1 S.2.1 dX2_merge_60 rfl (lv_at hl 1 rfl) ?_
      refine g_get (k := x1) (ci := 2) (f := 0) (v := .ref (ad (x1 + 1)))  S C kiX2_merge_X2 kfX2_merge_21 rfl (by decide) hL1.1 rfl rfl dX2_merge_61 ?_
      refine lv_iload S.1 S.2.1 dX2_merge_64 (lv_at hl 4 rfl) ?_
      obtain ⟨h3, hm⟩ := ck_ok hm
      refine g_iald S C (k := (x1 + 1)) (hL1).2.1 h3 dX2_merge_66 ?_
      refine lv_aload_n S.1 S.2.1 dX2_merge_67 rfl (lv_at hl 1 rfl) ?_
      refine g_get (k := x1) (ci := 2) (f := 1) (v := .ref (ad (x1 + 2)))  S C kiX2_merge_X2 kfX2_merge_25 rfl (by decide) hL1.1 rfl rfl dX2_merge_68 ?_
      refine lv_iload S.1 S.2.1 dX2_merge_71 (lv_at hl 4 rfl) ?_
      obtain ⟨h4, hm⟩ := ck_ok hm
      refine g_iald S C (k := (x1 + 2)) (hL1).2.2.1 h4 dX2_merge_73 ?_
      obtain ⟨r5, hcr5, hm⟩ := bd_ok hm
      refine gC_i C (gRV (k := x2) (ci := 2) (r := (RX2, TX2, 5)) (As := [.int x5, .int (M.1 (x1 + 1) x4.toNatClampNeg), .int (M.1 (x1 + 2) x4.toNatClampNeg)]) (rest := []) 3 S C (c_X2_isAhead l D cy ad M x2 hL2 x5 (M.1 (x1 + 1) x4.toNatClampNeg) (M.1 (x1 + 2) x4.toNatClampNeg) r5 hcr5) gX2_merge_X2_isAhead rfl (by decide +kernel) (by decide) hL2.1 rfl rfl rfl hl.1 rfl (Nat.le_of_ble_eq_true rfl) dX2_merge_74) (fun H locs C => ?_)
      refine lv_if_ne (tgt := 84) S.1 S.2.1 dX2_merge_77 (by decide) (fun c6 => ?_) (fun c6 => ?_)
      · rw [if_neg c6] at hm
        refine lv_iconst (v := (0 : Int32)) S.1 S.2.1 dX2_merge_84 (by decide) ?_
        exact wX2_merge_85 S hr hlk kk13 M _ _ C x0 hL0 x1 hL1 x2 hL2 x3 x4 x5 x6 (0 : Int32) ls (lv_sub hl [0, 1, 2, 3, 4, 5, 6] rfl) hm
      · rw [if_pos c6] at hm
        refine lv_iconst (v := (1 : Int32)) S.1 S.2.1 dX2_merge_80 (by decide) ?_
        refine lv_goto (tgt := 85) S.1 S.2.1 dX2_merge_81 (by decide) ?_
        exact wX2_merge_85 S hr hlk kk13 M _ _ C x0 hL0 x1 hL1 x2 hL2 x3 x4 x5 x6 (1 : Int32) ls (lv_sub hl [0, 1, 2, 3, 4, 5, 6] rfl) hm
set_option maxHeartbeats 4000000 in
set_option maxRecDepth 100000 in
theorem wX2_merge_13 {p : Program} {l : Launch} {e : Env} {s : State} {m : MethodId} {args : Array Value} {below : List Frame} {meth : Method} {c : Code} {D : va_G} {cy : gCy} {ad : Nat → Nat} {r0 : gMem} (S : CallFix p m c cX2_merge 10 s args wsX2_merge RX2) (hr : meth.sig.returnType = none) (hlk : meth.locks = false) : ∀ (n : Nat), ∀ (M : gMem) (H : Heap) (locs : List Loc), gW shC D cy ad s s.heap M H locs → ∀ (x0 : Nat) (hL0 : isL x0) (x1 : Nat) (hL1 : isL x1) (x2 : Nat) (hL2 : isL x2) (x3 : Int32) (x4 : Int32) (x5 : Int32) (x6 : Int32), ∀ (ls : Array Slot), lv_has ls 10 [(0, .ref (ad x0)), (1, .ref (ad x1)), (2, .ref (ad x2)), (3, .int x3), (4, .int x4), (5, .int x5), (6, .int x6)] → mX2_merge_13 n M x0 x1 x2 x3 x4 x5 x6 = some r0 → W p l e (gR 5 111) s m args below meth c H locs 0 0 (MQ below (gQv shC D cy ad r0) args s 0 0 (gA shC ad)) (F0 m 13 ls []) := by
  intro n
  induction n with
  | zero => intro M H locs C x0 hL0 x1 hL1 x2 hL2 x3 x4 x5 x6 ls hl hm; exact absurd hm (by simp [mX2_merge_13])
  | succ n ih =>
    intro M H locs C x0 hL0 x1 hL1 x2 hL2 x3 x4 x5 x6 ls hl hm
    rw [mX2_merge_13] at hm
    refine lv_iload S.1 S.2.1 dX2_merge_13 (lv_at hl 6 rfl) ?_
    refine lv_sipush (v := (128 : Int32)) S.1 S.2.1 dX2_merge_15 (by decide) ?_
    refine lv_icmp_ge (tgt := 201) S.1 S.2.1 dX2_merge_18 (by decide) (fun c1 => ?_) (fun c1 => ?_)
    · rw [if_pos c1] at hm
      exact gRetv S hr hlk C (Option.some.inj hm) dX2_merge_201
    · rw [if_neg c1] at hm
      refine lv_iload S.1 S.2.1 dX2_merge_21 (lv_at hl 4 rfl) ?_
      refine lv_aload_n S.1 S.2.1 dX2_merge_23 rfl (lv_at hl 1 rfl) ?_
      refine g_get (k := x1) (ci := 2) (f := 4) (v := .int (M.1 x1 4))  S C kiX2_merge_X2 kfX2_merge_39 rfl (by decide) hL1.1 rfl rfl dX2_merge_24 ?_
      refine lv_icmp_lt (tgt := 39) S.1 S.2.1 dX2_merge_27 (by decide) (fun c2 => ?_) (fun c2 => ?_)
      · rw [if_pos c2] at hm
        exact wX2_merge_39 S hr hlk ih M _ _ C x0 hL0 x1 hL1 x2 hL2 x3 x4 x5 x6 ls (lv_sub hl [0, 1, 2, 3, 4, 5, 6] rfl) hm
      · rw [if_neg c2] at hm
        refine lv_iload S.1 S.2.1 dX2_merge_30 (lv_at hl 5 rfl) ?_
        refine lv_aload_n S.1 S.2.1 dX2_merge_32 rfl (lv_at hl 2 rfl) ?_
        refine g_get (k := x2) (ci := 2) (f := 4) (v := .int (M.1 x2 4))  S C kiX2_merge_X2 kfX2_merge_39 rfl (by decide) hL2.1 rfl rfl dX2_merge_33 ?_
        refine lv_icmp_ge (tgt := 201) S.1 S.2.1 dX2_merge_36 (by decide) (fun c3 => ?_) (fun c3 => ?_)
        · rw [if_pos c3] at hm
          exact gRetv S hr hlk C (Option.some.inj hm) dX2_merge_201
        · rw [if_neg c3] at hm
          exact wX2_merge_39 S hr hlk ih M _ _ C x0 hL0 x1 hL1 x2 hL2 x3 x4 x5 x6 ls (lv_sub hl [0, 1, 2, 3, 4, 5, 6] rfl) hm
set_option maxHeartbeats 4000000 in
set_option maxRecDepth 100000 in
theorem c_X2_merge (l : Launch) (D : va_G) (cy : gCy) (ad : Nat → Nat) (M : gMem) (x0 : Nat) (hL0 : isL x0) (x1 : Nat) (hL1 : isL x1) (x2 : Nat) (hL2 : isL x2) (x3 : Int32) (r0 : gMem) (hm : mX2_merge M x0 x1 x2 x3 = some r0) : Met l yX2_merge wsX2_merge (gR 5 111) (va_Pc [.ref (ad x0), .ref (ad x1), .ref (ad x2), .int x3] (gP shC D cy ad M)) (gQv shC D cy ad r0) 0 0 (gA shC ad) := by
  refine gEnter (cc := cX2_merge) (maxL := 10) (ret := none) (by decide) rfl (Nat.le_of_ble_eq_true rfl) ?_
  intro p e s m below meth c ls S hr hlk C hl
  have S : CallFix p m c cX2_merge 10 s _ wsX2_merge RX2 := S
  have hl : lv_has ls 10 [(0, .ref (ad x0)), (1, .ref (ad x1)), (2, .ref (ad x2)), (3, .int x3)] := hl
  rw [mX2_merge] at hm
  refine lv_aload_n S.1 S.2.1 dX2_merge_0 rfl (lv_at hl 0 rfl) ?_
  obtain ⟨r1, hcr1, hm⟩ := bd_ok hm
  refine gC_v C (gRV (k := x0) (ci := 2) (r := (RX2, TX2, 5)) (As := []) (rest := []) 0 S C (c_X2_clear l D cy ad M x0 hL0 r1 hcr1) gX2_merge_X2_clear rfl (by decide +kernel) (by decide) hL0.1 rfl rfl rfl hl.1 rfl (Nat.le_of_ble_eq_true rfl) dX2_merge_1) (fun H locs C => ?_)
  refine lv_iconst (v := (0 : Int32)) S.1 S.2.1 dX2_merge_4 (by decide) ?_
  refine lv_istore (lv' := [(4, .int (0 : Int32)), (0, .ref (ad x0)), (1, .ref (ad x1)), (2, .ref (ad x2)), (3, .int x3)]) S.1 S.2.1 dX2_merge_5 hl (by decide) rfl (fun ls hl => ?_)
  refine lv_iconst (v := (0 : Int32)) S.1 S.2.1 dX2_merge_7 (by decide) ?_
  refine lv_istore (lv' := [(5, .int (0 : Int32)), (4, .int (0 : Int32)), (0, .ref (ad x0)), (1, .ref (ad x1)), (2, .ref (ad x2)), (3, .int x3)]) S.1 S.2.1 dX2_merge_8 hl (by decide) rfl (fun ls hl => ?_)
  refine lv_iconst (v := (0 : Int32)) S.1 S.2.1 dX2_merge_10 (by decide) ?_
  refine lv_istore (lv' := [(6, .int (0 : Int32)), (5, .int (0 : Int32)), (4, .int (0 : Int32)), (0, .ref (ad x0)), (1, .ref (ad x1)), (2, .ref (ad x2)), (3, .int x3)]) S.1 S.2.1 dX2_merge_11 hl (by decide) rfl (fun ls hl => ?_)
  exact wX2_merge_13 S hr hlk FU r1 _ _ C x0 hL0 x1 hL1 x2 hL2 x3 (0 : Int32) (0 : Int32) (0 : Int32) ls (lv_sub hl [3, 4, 5, 6, 2, 1, 0] rfl) hm
set_option maxHeartbeats 4000000 in
set_option maxRecDepth 100000 in
theorem wX2_firstHigh_3 {p : Program} {l : Launch} {e : Env} {s : State} {m : MethodId} {args : Array Value} {below : List Frame} {meth : Method} {c : Code} {D : va_G} {cy : gCy} {ad : Nat → Nat} {M : gMem} {r0 : Int32} (S : CallFix p m c cX2_firstHigh 5 s args wsX2_firstHigh RX2) (hr : meth.sig.returnType = (some .int)) (hlk : meth.locks = false) : ∀ (n : Nat), ∀ (H : Heap) (locs : List Loc), gW shC D cy ad s s.heap M H locs → ∀ (x0 : Nat) (hL0 : isL x0) (x2 : Int32) (x3 : Int32) (x4 : Int32), ∀ (ls : Array Slot), lv_has ls 5 [(0, .ref (ad x0)), (2, .int x2), (3, .int x3), (4, .int x4)] → mX2_firstHigh_3 n M x0 x2 x3 x4 = some r0 → W p l e (gR 1 20) s m args below meth c H locs 0 0 (MQ below (gQi shC D cy ad r0 M) args s 0 0 (gA shC ad)) (F0 m 3 ls []) := by
  intro n
  induction n with
  | zero => intro H locs C x0 hL0 x2 x3 x4 ls hl hm; exact absurd hm (by simp [mX2_firstHigh_3])
  | succ n ih =>
    intro H locs C x0 hL0 x2 x3 x4 ls hl hm
    rw [mX2_firstHigh_3] at hm
    refine lv_iload S.1 S.2.1 dX2_firstHigh_3 (lv_at hl 3 rfl) ?_
    refine lv_iload_n S.1 S.2.1 dX2_firstHigh_5 rfl (lv_at hl 1 rfl) ?_
    refine lv_icmp_ge (tgt := 33) S.1 S.2.1 dX2_firstHigh_6 (by decide) (fun c1 => ?_) (fun c1 => ?_)
    · rw [if_pos c1] at hm
      refine lv_iload_n S.1 S.2.1 dX2_firstHigh_33 rfl (lv_at hl 1 rfl) ?_
      exact gReti S hr hlk C (Option.some.inj hm) rfl dX2_firstHigh_34
    · rw [if_neg c1] at hm
      refine lv_aload_n S.1 S.2.1 dX2_firstHigh_9 rfl (lv_at hl 0 rfl) ?_
      refine g_get (k := x0) (ci := 2) (f := 0) (v := .ref (ad (x0 + 1)))  S C kiX2_firstHigh_X2 kfX2_firstHigh_21 rfl (by decide) hL0.1 rfl rfl dX2_firstHigh_10 ?_
      refine lv_iload S.1 S.2.1 dX2_firstHigh_13 (lv_at hl 3 rfl) ?_
      obtain ⟨h2, hm⟩ := ck_ok hm
      refine g_iald S C (k := (x0 + 1)) (hL0).2.1 h2 dX2_firstHigh_15 ?_
      refine lv_iload_n S.1 S.2.1 dX2_firstHigh_16 rfl (lv_at hl 2 rfl) ?_
      obtain ⟨r3, hcr3, hm⟩ := bd_ok hm
      refine gC_i C (gRSN (host := "PrefixLeader") (As := [.int x3]) (rest := [.int (M.1 (x0 + 1) x4.toNatClampNeg)]) 1 S C (c_X7_bitAt l D cy ad M x3 r3 hcr3) gX2_firstHigh_X7_bitAt_n84 rfl (by decide +kernel) knX2_firstHigh_X7_bitAti knX2_firstHigh_X7_bitAts (by decide +kernel) (by decide) rfl hl.1 rfl (Nat.le_of_ble_eq_true rfl) dX2_firstHigh_17) (fun H locs C => ?_)
      refine lv_iand S.1 S.2.1 dX2_firstHigh_20 ?_
      refine lv_if_eq (tgt := 27) S.1 S.2.1 dX2_firstHigh_21 (by decide) (fun c4 => ?_) (fun c4 => ?_)
      · rw [if_pos c4] at hm
        obtain ⟨y5, ey5, hm⟩ := nmd_ok hm
        refine lv_iinc (v := y5) (lv' := [(4, .int y5), (0, .ref (ad x0)), (2, .int x2), (3, .int x3)]) S.1 S.2.1 dX2_firstHigh_27 hl (k := 3) rfl (by rw [ey5]; rfl) (by decide) rfl (fun ls hl => ?_)
        refine lv_goto (tgt := 3) S.1 S.2.1 dX2_firstHigh_30 (by decide) ?_
        exact ih _ _ C x0 hL0 x2 x3 y5 ls (lv_sub hl [1, 2, 3, 0] rfl) hm
      · rw [if_neg c4] at hm
        refine lv_iload S.1 S.2.1 dX2_firstHigh_24 (lv_at hl 3 rfl) ?_
        exact gReti S hr hlk C (Option.some.inj hm) rfl dX2_firstHigh_26
set_option maxHeartbeats 4000000 in
set_option maxRecDepth 100000 in
theorem c_X2_firstHigh (l : Launch) (D : va_G) (cy : gCy) (ad : Nat → Nat) (M : gMem) (x0 : Nat) (hL0 : isL x0) (x1 : Int32) (x2 : Int32) (x3 : Int32) (r0 : Int32) (hm : mX2_firstHigh M x0 x1 x2 x3 = some r0) : Met l yX2_firstHigh wsX2_firstHigh (gR 1 20) (va_Pc [.ref (ad x0), .int x1, .int x2, .int x3] (gP shC D cy ad M)) (gQi shC D cy ad r0 M) 0 0 (gA shC ad) := by
  refine gEnter (cc := cX2_firstHigh) (maxL := 5) (ret := (some .int)) (by decide) rfl (Nat.le_of_ble_eq_true rfl) ?_
  intro p e s m below meth c ls S hr hlk C hl
  have S : CallFix p m c cX2_firstHigh 5 s _ wsX2_firstHigh RX2 := S
  have hl : lv_has ls 5 [(0, .ref (ad x0)), (1, .int x1), (2, .int x2), (3, .int x3)] := hl
  rw [mX2_firstHigh] at hm
  refine lv_iload_n S.1 S.2.1 dX2_firstHigh_0 rfl (lv_at hl 1 rfl) ?_
  refine lv_istore (lv' := [(4, .int x1), (0, .ref (ad x0)), (1, .int x1), (2, .int x2), (3, .int x3)]) S.1 S.2.1 dX2_firstHigh_1 hl (by decide) rfl (fun ls hl => ?_)
  exact wX2_firstHigh_3 S hr hlk FU _ _ C x0 hL0 x2 x3 x1 ls (lv_sub hl [1, 3, 4, 0] rfl) hm
end
