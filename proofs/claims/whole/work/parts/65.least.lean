/-! least, combine -/
theorem ins_pos {C : List L3} (hw : wfB C) (a n : Nat) (hno : ∀ k, k < C.length → ¬ ((bk C k).1 = a ∧ (bk C k).2.1 = n)) : ∃ p, p ≤ C.length ∧ (∀ k, k < p → ltK (bk C k) a n) ∧ ∀ k, p ≤ k → k < C.length → ¬ ltK (bk C k) a n ∧ ¬ ((bk C k).1 = a ∧ (bk C k).2.1 = n) := by
  obtain ⟨p, h1, h2⟩ := pk_least (fun k => C.length ≤ k ∨ ¬ ltK (bk C k) a n) ⟨C.length, Or.inl (Nat.le_refl _)⟩
  have pl : p ≤ C.length := by
    refine Classical.byContradiction fun z => h2 C.length (by omega) (Or.inl (Nat.le_refl _))
  refine ⟨p, pl, fun k hk => ?_, fun k k1 k2 => ⟨?_, hno k k2⟩⟩
  · refine Classical.byContradiction fun z => h2 k hk (Or.inr z)
  · rcases h1 with z | z
    · omega
    · exact ltK_mono hw k1 k2 z
theorem ins_mem {B : List L3} {p : Nat} {q x : L3} : x ∈ insL B p q ↔ x ∈ B ∨ x = q := by
  unfold insL
  have e : x ∈ B ↔ x ∈ B.take p ∨ x ∈ B.drop p := by
    rw [← List.mem_append, List.take_append_drop]
  rw [List.mem_append, List.mem_cons, e]
  constructor
  · rintro (z | z | z)
    · exact Or.inl (Or.inl z)
    · exact Or.inr z
    · exact Or.inl (Or.inr z)
  · rintro ((z | z) | z)
    · exact Or.inl z
    · exact Or.inr (Or.inr z)
    · exact Or.inr (Or.inl z)
theorem r_becomes_loop {to : Nat} (h6 : to < 6) {A : List L3} (hl : A.length ≤ 64) (hA : ∀ i, i < A.length → wfL (bk A i)) (hd : ∀ i j, i < A.length → j < A.length → sameB (bk A i) (bk A j) → i = j) : ∀ f i (M : gMem) (C : List L3), i ≤ A.length → A.length - i < f → MD M A → M.1 0 14 = nI A.length → RB M to C → wfB C → C.length = i → (∀ q, q ∈ C ↔ ∃ j, j < i ∧ bk A j = q) → ∃ M' C', mX8_becomes_9 f M (nI to) (nI i) = some (nI C'.length, M') ∧ RB M' to C' ∧ wfB C' ∧ (∀ q, q ∈ C' ↔ q ∈ A) ∧ RO to M M' := by
  intro f
  induction f with
  | zero => intro i M C _ h; omega
  | succ f ih =>
    intro i M C hi hf hM h14 hC wC lC mC
    rw [mX8_becomes_9, h14]
    by_cases z : i < A.length
    · have w := hA i z
      obtain ⟨e1, e2, e3⟩ := hM i z (by omega)
      rw [if_neg (nI_ge z (by omega)), ckI (by omega) (by omega), ckI (by omega) (by omega), ckI (by omega) (by omega), nI_cl (by omega), e1, e2, e3]
      have hno : ∀ k, k < C.length → ¬ ((bk C k).1 = (bk A i).1 ∧ (bk C k).2.1 = (bk A i).2.1) := by
        intro k hk q
        obtain ⟨j, j1, j2⟩ := (mC _).mp (bk_mem hk)
        have := hd j i (by omega) z ⟨by rw [j2]; exact q.1, by rw [j2]; exact q.2⟩
        omega
      obtain ⟨p, p1, p2, p3⟩ := ins_pos wC (bk A i).1 (bk A i).2.1 hno
      obtain ⟨M1, r1, r2, r3⟩ := r_comes (g := (bk A i).2.2) h6 hC w.1 w.2.1 wC (by omega) p1 p2 p3
      rw [r1, Option.bind_some, nmd, nI_1]
      have k14 : ∀ w, w ≠ 1 → w ≠ 3 → w ≠ 4 → M1.1 w = M.1 w := r2.1
      obtain ⟨M2, C2, s1, s2, s3, s4, s5⟩ := ih (i + 1) M1 (insL C p ((bk A i).1, (bk A i).2.1, (bk A i).2.2)) (by omega) (by omega) (MD_keep hM ⟨r2.2.1 14 (by omega), k14 15 (by omega) (by omega) (by omega), k14 16 (by omega) (by omega) (by omega)⟩) (by rw [k14 0 (by omega) (by omega) (by omega)]; exact h14) r3 (ins_wf wC p1 w p2 p3) (by rw [insL_len p1]; omega) (fun q => by
        rw [ins_mem, mC q]
        constructor
        · rintro (⟨j, j1, j2⟩ | e)
          · exact ⟨j, by omega, j2⟩
          · exact ⟨i, by omega, by rw [e]⟩
        · rintro ⟨j, j1, j2⟩
          by_cases e : j = i
          · subst e; exact Or.inr j2.symm
          · exact Or.inl ⟨j, by omega, j2⟩)
      exact ⟨M2, C2, s1, s2, s3, s4, r2.tr s5⟩
    · have ei : i = A.length := by omega
      rw [if_pos (nI_le (by omega) (by omega)), ckI (n := 6) h6 (by omega), nI_cl (by omega), hC.2.1]
      refine ⟨M, C, rfl, hC, wC, fun q => ?_, RO.rf⟩
      rw [mC q]
      constructor
      · rintro ⟨j, j1, j2⟩; rw [← j2]; exact bk_mem (by omega)
      · intro hq
        obtain ⟨j, j1, j2⟩ := List.getElem_of_mem hq
        exact ⟨j, by omega, by rw [bk_get j1]; exact j2⟩
theorem r_becomes {to : Nat} (h6 : to < 6) {M : gMem} {A Z B0 : List L3} (hZ : Z.Perm A) (wZ : wfB Z) (hl : A.length ≤ 64) (hM : MD M A) (h14 : M.1 0 14 = nI A.length) (hB : RB M to B0) : ∃ M', mX8_becomes M (nI to) = some (nI Z.length, M') ∧ RO to M M' ∧ RB M' to Z := by
  have hfu := FU_big
  obtain ⟨z1, z2⟩ := wfB_to wZ
  have pw : A.Pairwise (fun p q => ¬ sameB p q) := by
    have a : Z.Pairwise (fun p q => ¬ sameB p q) := z2.imp (fun {p q} h s => by unfold ltL at h; unfold sameB at s; omega)
    exact (List.Perm.pairwise_iff (fun {x y} h s => h ⟨s.1.symm, s.2.symm⟩) hZ).mp a
  have hA : ∀ i, i < A.length → wfL (bk A i) := fun i hi => z1 _ (hZ.mem_iff.mpr (bk_mem hi))
  have o1 : RO to M (sI M 1 to 0) := sI1_RO
  rw [mX8_becomes, ckI (n := 6) h6 (by omega), nI_cl (by omega), nmd]
  obtain ⟨M2, C, s1, s2, s3, s4, s5⟩ := r_becomes_loop h6 hl hA (fun i j hi hj hs => pw_bk pw hi hj hs) FU 0 (sI M 1 to 0) [] (by omega) (by omega) (MD_keep hM ⟨rfl, (sI_off _ (by omega)).1, (sI_off _ (by omega)).1⟩) (by rw [(sI_off _ (show 0 ≠ 1 by omega)).1]; exact h14) ⟨by simp, by rw [sI1, if_pos ⟨rfl, rfl⟩]; rfl, fun i hi => by simp at hi⟩ ⟨fun i hi => by simp at hi, fun i j _ hj => by simp at hj⟩ rfl (fun q => by
    constructor
    · intro z; simp at z
    · rintro ⟨j, j1, _⟩; omega)
  have eC : C = Z := sorted_ext (wfB_to s3).2 z2 (fun q => (s4 q).trans hZ.symm.mem_iff)
  subst eC
  exact ⟨M2, s1, o1.tr s5, s2⟩
def cbO (l2 : Nat) (M M' : gMem) : Prop := ∀ k, (k < 26 ∨ 41 ≤ k) → (k < l2 ∨ l2 + 4 ≤ k) → M'.1 k = M.1 k ∧ M'.2 k = M.2 k
theorem Inv.book2 {MC MR MC' MR1 MR' : gMem} {bks : Nat → List L3} (hb : bkRel MC MR bks) (h26 : ∃ B, LB MC' 26 B) (h30 : ∃ B, LB MC' 30 B) (hc : cwRel MC MR) {b : Nat} (h6 : b < 6) {B : List L3} (o : cbO (2 + 4 * b) MC MC') (l : LB MC' (2 + 4 * b) B) (rk : RK MR MR1) (ro : RO b MR1 MR') (r : RB MR' b B) (w : wfB B) : Inv MC' MR' := by
  refine ⟨va_up bks b B, ⟨fun j hj => ?_, fun j hj => ?_, fun j hj => ?_⟩, h26, h30, hc.keep (fun k hk => o k (by omega) (by omega)) (rk.2.tr ro.sr)⟩
  · by_cases e : j = b
    · subst e; rw [va_up_self]; exact l
    · rw [va_up_ne _ _ e]; exact (hb.1 j hj).same (fun c hc => (o _ (by omega) (by omega)).1)
  · by_cases e : j = b
    · subst e; rw [va_up_self]; exact r
    · rw [va_up_ne _ _ e]; exact ((hb.2.1 j hj).rk rk).off ro e
  · by_cases e : j = b
    · subst e; rw [va_up_self]; exact w
    · rw [va_up_ne _ _ e]; exact hb.2.2 j hj
theorem mleast_wf {F : Nat → Nat} (hF : ∀ x, F x ≤ 16) : wfB (mleast F 32 0 16) :=
  wfB_of (fun q hq => (mleast_in hF 32 0 16 (Nat.le_refl _) (Nat.zero_mod _) (by omega) q hq).2.2.2) (mleast_sorted hF 32 0 16 (Nat.le_refl _) (Nat.zero_mod _) (by omega))
theorem mix_le {how : Nat} (hh : how ≤ 2) {A B : List L3} (wA : wfB A) (wB : wfB B) (x : Nat) : mixF how A B x ≤ 16 := mixG_16 hh (leads_le wA x) (leads_le wB x)
/-- what both sides make of a way of leading -/
theorem both_least {MC MC1 MR MR1 : gMem} {bks : Nat → List L3} (hb : bkRel MC MR bks) (hc : cwRel MC MR) {to l : Nat} (h6 : to < 6) {B : List L3} (hl : l + 4 ≤ 30) (o1 : cbO (2 + 4 * to) MC MC1) (hto : LB MC1 (2 + 4 * to) (bks to)) (hL : LB MC1 l B) (hw : wfB B) (h128 : B.length ≤ 128) (h26 : ∃ T, LB MC1 26 T) (h30 : ∃ T, LB MC1 30 T) {R : List P2} (rk : RK MR MR1) (hS : SPR MR1 R) (hp : pruns (leads B) R 4294967296) : ∃ (MC' MR2 : gMem) (A : List L3), mX8_makeLeast MR1 = some (nI A.length, MR2) ∧ A.length ≤ B.length ∧ ((A.length ≤ 64 ∧ mX7_becomeLeast MC1 l (2 + 4 * to) = some (nI A.length, MC') ∧ ∃ MR', mX8_becomes MR2 (nI to) = some (nI A.length, MR') ∧ Inv MC' MR') ∨ (64 < A.length ∧ A.length ≤ 100000 ∧ mX7_becomeLeast MC1 l (2 + 4 * to) = some (-2, MC') ∧ Inv MC' MR2)) := by
  have hF : ∀ x, leads B x ≤ 16 := leads_le hw
  obtain ⟨MC', t30, bo, cs⟩ := m_becomeLeast (l2 := 2 + 4 * to) hl hL hw h128 (by omega) (lnB h6) hto h30
  obtain ⟨MR2, A, a1, a2, a3, a4, a5⟩ := r_makeLeast hF hS hp
  have al : A.length = (mleast (leads B) 32 0 16).length := a4.length_eq.symm
  have wZ : wfB (mleast (leads B) 32 0 16) := mleast_wf hF
  have ol := least_le hw
  generalize mleast (leads B) 32 0 16 = Z at cs a4 al wZ ol
  have oo : cbO (2 + 4 * to) MC MC' := fun k k1 k2 => ⟨(bo k (by omega) k2).1.trans (o1 k k1 k2).1, (bo k (by omega) k2).2.trans (o1 k k1 k2).2⟩
  have t26 : ∃ T, LB MC' 26 T := by
    obtain ⟨T, hT⟩ := h26
    exact ⟨T, hT.same (fun c hc => (bo _ (by omega) (by omega)).1)⟩
  have rk2 := rk.tr a5
  refine ⟨MC', MR2, A, a1, by omega, ?_⟩
  rcases cs with ⟨c1, c2, c3⟩ | ⟨c1, c2, c3⟩
  · obtain ⟨MR', b1, b2, b3⟩ := r_becomes h6 a4 wZ (by omega) a2 a3 ((hb.2.1 to h6).rk rk2)
    exact Or.inl ⟨by omega, by rw [al]; exact c2, MR', by rw [al]; exact b1, Inv.book2 hb t26 t30 hc h6 oo c3 rk2 b2 b3 wZ⟩
  · have hR := (hb.2.1 to h6).rk rk2
    exact Or.inr ⟨by omega, by omega, c2, Inv.book2 hb t26 t30 hc h6 oo c3 rk2 RO.rf hR (hb.2.2 to h6)⟩
theorem cbO.rf {l : Nat} {M : gMem} : cbO l M M := fun _ _ _ => ⟨rfl, rfl⟩
theorem op_least {MC MR : gMem} (h : Inv MC MR) (x1 x2 : Int32) : ∃ r MC' MR', mX7_least MC x1 x2 = some (r, MC') ∧ mX8_least MR x1 x2 = some (r, MR') ∧ Inv MC' MR' := by
  obtain ⟨bks, hb, h26, h30, hc⟩ := id h
  rw [mX7_least, mX8_least]
  rcases book_cases x1 with ⟨b, h6, rfl, e1, e2⟩ | ⟨e1, e2⟩
  rotate_left
  · rw [e1, e2, Option.bind_some, Option.bind_some, if_pos rfl, if_pos rfl]; exact ⟨_, _, _, rfl, rfl, h⟩
  rw [e1, e2, Option.bind_some, Option.bind_some, if_neg one_ne, if_neg one_ne]
  rcases book_cases x2 with ⟨to, t6, rfl, e1, e2⟩ | ⟨e1, e2⟩
  rotate_left
  · rw [e1, e2, Option.bind_some, Option.bind_some, if_pos rfl, if_pos rfl]; exact ⟨_, _, _, rfl, rfl, h⟩
  rw [e1, e2, Option.bind_some, Option.bind_some, if_neg one_ne, if_neg one_ne]
  have hL := hb.1 b h6
  have hR := hb.2.1 b h6
  have hw := hb.2.2 b h6
  have hlen := hR.1
  obtain ⟨MR1, R, k1, k2, k3, k4⟩ := r_makeSpans h6 h6 hR hR hw hw (show 3 ≤ 4 by omega)
  rw [mixF3] at k3
  have k1' : mX8_makeSpans MR 3 (nI b) (nI b) = some MR1 := k1
  obtain ⟨MC', MR2, A, a1, a2, cs⟩ := both_least hb hc t6 (l := 2 + 4 * b) (by omega) cbO.rf (hb.1 to t6) hL hw (by omega) h26 h30 k4 k2 k3
  rw [ckI (n := 6) h6 (by omega), ckI (n := 6) t6 (by omega), nI_cl (by omega), nI_cl (by omega), k1', Option.bind_some, a1, Option.bind_some]
  rcases cs with ⟨c1, c2, MR', c3, c4⟩ | ⟨c1, _⟩
  · rw [c2, Option.bind_some, c3, Option.bind_some]
    exact ⟨_, _, _, rfl, rfl, c4⟩
  · omega
theorem op_combine {MC MR : gMem} (h : Inv MC MR) (x1 x2 x3 x4 : Int32) : ∃ r MC' MR', mX7_combine MC x1 x2 x3 x4 = some (r, MC') ∧ mX8_combine MR x1 x2 x3 x4 = some (r, MR') ∧ Inv MC' MR' := by
  obtain ⟨bks, hb, h26, h30, hc⟩ := id h
  rw [mX7_combine, mX8_combine]
  rcases i32_range (x := x1) (n := 2) (by omega) with q | ⟨how, hh, rfl⟩
  · have q' : mX8_lies x1 0 2 = some 0 := r_lies_out (n := 2) q
    rw [q', Option.bind_some, if_pos rfl]
    rcases q with q | q
    · rw [if_pos q]; exact ⟨_, _, _, rfl, rfl, h⟩
    · by_cases c : x1 < 0
      · rw [if_pos c]; exact ⟨_, _, _, rfl, rfl, h⟩
      · rw [if_neg c, if_pos (show (2 : Int32) < x1 from q)]; exact ⟨_, _, _, rfl, rfl, h⟩
  have q' : mX8_lies (nI how) 0 2 = some 1 := r_lies_in (n := 2) hh (by omega)
  rw [q', Option.bind_some, if_neg one_ne, if_neg (nI_pos (by omega)), if_neg (show ¬ (2 : Int32) < nI how from nI_nlt (a := 2) hh (by omega))]
  rcases book_cases x2 with ⟨a, a6, rfl, e1, e2⟩ | ⟨e1, e2⟩
  rotate_left
  · rw [e1, e2, Option.bind_some, Option.bind_some, if_pos rfl, if_pos rfl]; exact ⟨_, _, _, rfl, rfl, h⟩
  rw [e1, e2, Option.bind_some, Option.bind_some, if_neg one_ne, if_neg one_ne]
  rcases book_cases x3 with ⟨b, b6, rfl, e1, e2⟩ | ⟨e1, e2⟩
  rotate_left
  · rw [e1, e2, Option.bind_some, Option.bind_some, if_pos rfl, if_pos rfl]; exact ⟨_, _, _, rfl, rfl, h⟩
  rw [e1, e2, Option.bind_some, Option.bind_some, if_neg one_ne, if_neg one_ne]
  rcases book_cases x4 with ⟨to, t6, rfl, e1, e2⟩ | ⟨e1, e2⟩
  rotate_left
  · rw [e1, e2, Option.bind_some, Option.bind_some, if_pos rfl, if_pos rfl]; exact ⟨_, _, _, rfl, rfl, h⟩
  rw [e1, e2, Option.bind_some, Option.bind_some, if_neg one_ne, if_neg one_ne]
  have wA := hb.2.2 a a6
  have wB := hb.2.2 b b6
  have rA := hb.2.1 a a6
  have rB := hb.2.1 b b6
  obtain ⟨MR1, R, k1, k2, k3, k4⟩ := r_makeSpans a6 b6 rA rB wA wB (show how ≤ 4 by omega)
  obtain ⟨MC1, T, m1, m2, m3, m4, m5, m6⟩ := m_merge hh wA wB (show 2 + 4 * a + 4 ≤ 26 by omega) (show 2 + 4 * b + 4 ≤ 26 by omega) rA.1 rB.1 (hb.1 a a6) (hb.1 b b6) h26
  rw [← m6] at k3
  have t30 : ∃ X, LB MC1 30 X := by
    obtain ⟨X, hX⟩ := h30
    exact ⟨X, hX.off m2 (by omega)⟩
  obtain ⟨MC', MR2, A, a1, a2, cs⟩ := both_least hb hc t6 (l := 26) (by omega) (fun k q1 q2 => m2 k (by omega)) ((hb.1 to t6).off m2 (by omega)) m3 m4 m5 ⟨T, m3⟩ t30 k4 k2 k3
  rw [ckI (n := 6) a6 (by omega), ckI (n := 6) b6 (by omega), nI_cl (by omega), nI_cl (by omega), m1, Option.bind_some, ckI (n := 6) t6 (by omega), nI_cl (by omega), k1, Option.bind_some, a1, Option.bind_some]
  rcases cs with ⟨c1, c2, MR', c3, c4⟩ | ⟨c1, c0, c2, c3⟩
  · rw [c2, Option.bind_some, if_pos (show nI A.length ≤ (64 : Int32) from nI_le (b := 64) c1 (by omega)), c3, Option.bind_some]
    exact ⟨_, _, _, rfl, rfl, c4⟩
  · rw [c2, Option.bind_some, if_neg (show ¬ nI A.length ≤ (64 : Int32) from nI_ge (a := 64) c1 (by omega))]
    exact ⟨_, _, _, rfl, rfl, c3⟩
