/-! what holds between calls, of the class's memory and of the reference's -/
abbrev P2 : Type := Nat × Nat
def ck2 (cv : List P2) (i : Nat) : P2 := cv.getD i (0, 0)
def cvC (M : gMem) (cv : List P2) : Prop := cv.length ≤ 62 ∧ M.1 50 2 = nI cv.length ∧ ∀ i, i < cv.length → M.2 51 i = lN (ck2 cv i).1 ∧ M.1 52 i = nI (ck2 cv i).2
def cvR (M : gMem) (cv : List P2) : Prop := M.1 0 18 = nI cv.length ∧ ∀ i, i < cv.length → M.2 17 i = lN (ck2 cv i).1 ∧ M.1 18 i = nI (ck2 cv i).2
def cvW (cv : List P2) : Prop := ∀ i, i < cv.length → (ck2 cv i).1 < 4294967296 ∧ (ck2 cv i).2 ≤ 32
def wyC (M : gMem) (wy : Option (List L3 × List L3 × List L3)) : Prop := (∃ S, LB M 54 S) ∧ (∃ U, LB M 58 U) ∧ (∃ V, LB M 62 V) ∧ match wy with
  | none => M.1 53 4 = -1
  | some (S, U, V) => M.1 53 4 = nI (U.length + V.length) ∧ LB M 54 S ∧ LB M 58 U ∧ LB M 62 V
def wyR (M : gMem) (wy : Option (List L3 × List L3 × List L3)) : Prop := match wy with
  | none => M.1 0 21 = 0
  | some (S, U, V) => M.1 0 21 = 1 ∧ M.1 0 22 = nI (U.length + V.length) ∧ M.1 0 27 = nI S.length ∧ (∀ i, i < U.length → M.1 19 i = 1 ∧ M.2 20 i = lN (bk U i).1 ∧ M.1 21 i = nI (bk U i).2.1 ∧ M.1 22 i = nI (bk U i).2.2) ∧ (∀ i, i < V.length → M.1 19 (U.length + i) = 0 ∧ M.2 20 (U.length + i) = lN (bk V i).1 ∧ M.1 21 (U.length + i) = nI (bk V i).2.1 ∧ M.1 22 (U.length + i) = nI (bk V i).2.2) ∧ ∀ i, i < S.length → M.2 23 i = lN (bk S i).1 ∧ M.1 24 i = nI (bk S i).2.1 ∧ M.1 25 i = nI (bk S i).2.2
/-- two LINES of one BEGINNING -/
def sameB (p q : L3) : Prop := p.1 = q.1 ∧ p.2.1 = q.2.1
def wyW (wy : Option (List L3 × List L3 × List L3)) : Prop := match wy with
  | none => True
  | some (S, U, V) => wfB S ∧ (∀ i, i < U.length → wfL (bk U i)) ∧ (∀ i, i < V.length → wfL (bk V i)) ∧ S.length ≤ 64 ∧ U.length ≤ 64 ∧ V.length ≤ 64 ∧ (∀ i j, i < U.length → j < U.length → sameB (bk U i) (bk U j) → i = j) ∧ (∀ i j, i < V.length → j < V.length → sameB (bk V i) (bk V j) → i = j) ∧ (∀ i j, i < U.length → j < V.length → ¬ sameB (bk U i) (bk V j)) ∧ ∀ j, j < V.length → ∃ i, i < S.length ∧ bk S i = bk V j
def cwRel (MC MR : gMem) : Prop := (∃ cv, cvC MC cv ∧ cvR MR cv ∧ cvW cv) ∧ ∃ wy, wyC MC wy ∧ wyR MR wy ∧ wyW wy
def SC (M M' : gMem) : Prop := ∀ k, 50 ≤ k → M'.1 k = M.1 k ∧ M'.2 k = M.2 k
def SR (M M' : gMem) : Prop := (∀ k, 17 ≤ k → k ≤ 25 → M'.1 k = M.1 k ∧ M'.2 k = M.2 k) ∧ M'.1 0 18 = M.1 0 18 ∧ M'.1 0 21 = M.1 0 21 ∧ M'.1 0 22 = M.1 0 22 ∧ M'.1 0 27 = M.1 0 27
theorem SC.rf {M : gMem} : SC M M := fun _ _ => ⟨rfl, rfl⟩
theorem SR.rf {M : gMem} : SR M M := ⟨fun _ _ _ => ⟨rfl, rfl⟩, rfl, rfl, rfl, rfl⟩
theorem SC.tr {M M1 M2 : gMem} (h : SC M M1) (g : SC M1 M2) : SC M M2 := fun k hk => ⟨(g k hk).1.trans (h k hk).1, (g k hk).2.trans (h k hk).2⟩
theorem SR.tr {M M1 M2 : gMem} (h : SR M M1) (g : SR M1 M2) : SR M M2 := ⟨fun k a b => ⟨(g.1 k a b).1.trans (h.1 k a b).1, (g.1 k a b).2.trans (h.1 k a b).2⟩, g.2.1.trans h.2.1, g.2.2.1.trans h.2.2.1, g.2.2.2.1.trans h.2.2.2.1, g.2.2.2.2.trans h.2.2.2.2⟩
theorem Off.sc {l n : Nat} {M M' : gMem} (h : Off l n M M') (hl : l + n ≤ 50) : SC M M' := fun k hk => h k (by omega)
theorem RO.sr {b : Nat} {M M' : gMem} (h : RO b M M') : SR M M' := by
  have h0 := h.1 0 (by omega) (by omega) (by omega)
  exact ⟨fun k a b => ⟨h.1 k (by omega) (by omega) (by omega), h.2.1 k (by omega)⟩, by rw [h0], by rw [h0], by rw [h0], by rw [h0]⟩
theorem LB.same {l : Nat} {M M' : gMem} {B : List L3} (h : LB M l B) (e : ∀ c, c < 4 → M'.1 (l + c) = M.1 (l + c)) : LB M' l B := by
  obtain ⟨h1, h2, h3, h4, h5⟩ := h
  have e0 : M'.1 l = M.1 l := e 0 (by omega)
  refine ⟨h1, h2, by rw [e0]; exact h3, by rw [e0]; exact h4, fun i hi => ?_⟩
  rw [e 1 (by omega), e 2 (by omega), e 3 (by omega)]
  exact h5 i hi
theorem cvC.keep {M M' : gMem} {cv : List P2} (h : cvC M cv) (s : SC M M') : cvC M' cv := by
  refine ⟨h.1, by rw [(s 50 (by omega)).1]; exact h.2.1, fun i hi => ?_⟩
  rw [(s 51 (by omega)).2, (s 52 (by omega)).1]
  exact h.2.2 i hi
theorem wyC.keep {M M' : gMem} {wy : Option (List L3 × List L3 × List L3)} (h : wyC M wy) (s : SC M M') : wyC M' wy := by
  have k54 : ∀ B, LB M 54 B → LB M' 54 B := fun B h => h.same (fun c _ => (s _ (by omega)).1)
  have k58 : ∀ B, LB M 58 B → LB M' 58 B := fun B h => h.same (fun c _ => (s _ (by omega)).1)
  have k62 : ∀ B, LB M 62 B → LB M' 62 B := fun B h => h.same (fun c _ => (s _ (by omega)).1)
  obtain ⟨⟨S, h1⟩, ⟨U, h2⟩, ⟨V, h3⟩, h4⟩ := h
  refine ⟨⟨S, k54 S h1⟩, ⟨U, k58 U h2⟩, ⟨V, k62 V h3⟩, ?_⟩
  match wy, h4 with
  | none, h4 => show M'.1 53 4 = -1; rw [(s 53 (by omega)).1]; exact h4
  | some (S, U, V), h4 => exact ⟨by rw [(s 53 (by omega)).1]; exact h4.1, k54 _ h4.2.1, k58 _ h4.2.2.1, k62 _ h4.2.2.2⟩
theorem cvR.keep {M M' : gMem} {cv : List P2} (h : cvR M cv) (s : SR M M') : cvR M' cv := by
  refine ⟨by rw [s.2.1]; exact h.1, fun i hi => ?_⟩
  rw [(s.1 17 (by omega) (by omega)).2, (s.1 18 (by omega) (by omega)).1]
  exact h.2 i hi
theorem wyR.keep {M M' : gMem} {wy : Option (List L3 × List L3 × List L3)} (h : wyR M wy) (s : SR M M') : wyR M' wy := by
  match wy, h with
  | none, h => show M'.1 0 21 = 0; rw [s.2.2.1]; exact h
  | some (S, U, V), h =>
    obtain ⟨h1, h2, h3, h4, h5, h6⟩ := h
    refine ⟨by rw [s.2.2.1]; exact h1, by rw [s.2.2.2.1]; exact h2, by rw [s.2.2.2.2]; exact h3, fun i hi => ?_, fun i hi => ?_, fun i hi => ?_⟩
    · rw [(s.1 19 (by omega) (by omega)).1, (s.1 20 (by omega) (by omega)).2, (s.1 21 (by omega) (by omega)).1, (s.1 22 (by omega) (by omega)).1]
      exact h4 i hi
    · rw [(s.1 19 (by omega) (by omega)).1, (s.1 20 (by omega) (by omega)).2, (s.1 21 (by omega) (by omega)).1, (s.1 22 (by omega) (by omega)).1]
      exact h5 i hi
    · rw [(s.1 23 (by omega) (by omega)).2, (s.1 24 (by omega) (by omega)).1, (s.1 25 (by omega) (by omega)).1]
      exact h6 i hi
theorem cwRel.keep {MC MR MC' MR' : gMem} (h : cwRel MC MR) (s : SC MC MC') (t : SR MR MR') : cwRel MC' MR' := by
  obtain ⟨⟨cv, a1, a2, a3⟩, wy, b1, b2, b3⟩ := h
  exact ⟨⟨cv, a1.keep s, a2.keep t, a3⟩, wy, b1.keep s, b2.keep t, b3⟩
/-- BOOKS on both sides -/
def bkRel (MC MR : gMem) (bks : Nat → List L3) : Prop := (∀ b, b < 6 → LB MC (2 + 4 * b) (bks b)) ∧ (∀ b, b < 6 → RB MR b (bks b)) ∧ ∀ b, b < 6 → wfB (bks b)
def Inv (MC MR : gMem) : Prop := ∃ bks, bkRel MC MR bks ∧ (∃ B, LB MC 26 B) ∧ (∃ B, LB MC 30 B) ∧ cwRel MC MR
theorem lnB {b : Nat} (h : b < 6) : lnOf (2 + 4 * b) = 64 := by
  rcases (show b = 0 ∨ b = 1 ∨ b = 2 ∨ b = 3 ∨ b = 4 ∨ b = 5 by omega) with rfl | rfl | rfl | rfl | rfl | rfl <;> rfl
theorem ln26 : lnOf 26 = 128 := rfl
theorem ln30 : lnOf 30 = 65 := rfl
/-- one BOOK has changed, on both sides alike -/
theorem Inv.book {MC MR MC' MR' : gMem} {bks : Nat → List L3} (hb : bkRel MC MR bks) (h26 : ∃ B, LB MC 26 B) (h30 : ∃ B, LB MC 30 B) (hc : cwRel MC MR) {b : Nat} (h6 : b < 6) {B : List L3} (o : Off (2 + 4 * b) 4 MC MC') (l : LB MC' (2 + 4 * b) B) (ro : RO b MR MR') (r : RB MR' b B) (w : wfB B) : Inv MC' MR' := by
  refine ⟨va_up bks b B, ⟨fun j hj => ?_, fun j hj => ?_, fun j hj => ?_⟩, ?_, ?_, hc.keep (o.sc (by omega)) ro.sr⟩
  · by_cases e : j = b
    · subst e; rw [va_up_self]; exact l
    · rw [va_up_ne _ _ e]; exact (hb.1 j hj).off o (by omega)
  · by_cases e : j = b
    · subst e; rw [va_up_self]; exact r
    · rw [va_up_ne _ _ e]; exact (hb.2.1 j hj).off ro e
  · by_cases e : j = b
    · subst e; rw [va_up_self]; exact w
    · rw [va_up_ne _ _ e]; exact hb.2.2 j hj
  · obtain ⟨B, h⟩ := h26; exact ⟨B, h.off o (by omega)⟩
  · obtain ⟨B, h⟩ := h30; exact ⟨B, h.off o (by omega)⟩
theorem ins_wf {B : List L3} (hw : wfB B) {p a n g : Nat} (hp : p ≤ B.length) (hq : wfL (a, n, g)) (hlo : ∀ k, k < p → ltK (bk B k) a n) (hhi : ∀ k, p ≤ k → k < B.length → ¬ ltK (bk B k) a n ∧ ¬ ((bk B k).1 = a ∧ (bk B k).2.1 = n)) : wfB (insL B p (a, n, g)) := by
  refine ⟨fun i hi => ?_, fun i j hij hj => ?_⟩
  · rw [insL_len hp] at hi
    rw [insL_bk hp]
    split
    · exact hw.1 i (by omega)
    · split
      · exact hq
      · exact hw.1 (i - 1) (by omega)
  · rw [insL_len hp] at hj
    rw [insL_bk hp, insL_bk hp]
    by_cases i1 : i < p
    · rw [if_pos i1]
      by_cases j1 : j < p
      · rw [if_pos j1]; exact hw.2 i j hij (by omega)
      · rw [if_neg j1]
        by_cases j2 : j = p
        · rw [if_pos j2]; exact hlo i i1
        · rw [if_neg j2]; exact hw.2 i (j - 1) (by omega) (by omega)
    · rw [if_neg i1, if_neg (show ¬ j < p by omega), if_neg (show ¬ j = p by omega)]
      by_cases i2 : i = p
      · rw [if_pos i2]
        have := hhi (j - 1) (by omega) (by omega)
        unfold ltK at this
        unfold ltL
        show a < (bk B (j - 1)).1 ∨ (a = (bk B (j - 1)).1 ∧ n < (bk B (j - 1)).2.1)
        omega
      · rw [if_neg i2]; exact hw.2 (i - 1) (j - 1) (by omega) (by omega)
theorem del_wf {B : List L3} (hw : wfB B) {p : Nat} (hp : p < B.length) : wfB (delL B p) := by
  refine ⟨fun i hi => ?_, fun i j hij hj => ?_⟩
  · rw [delL_len hp] at hi
    rw [delL_bk hp]
    split
    · exact hw.1 i (by omega)
    · exact hw.1 (i + 1) (by omega)
  · rw [delL_len hp] at hj
    rw [delL_bk hp, delL_bk hp]
    split <;> split
    · exact hw.2 i j hij (by omega)
    · exact hw.2 i (j + 1) (by omega) (by omega)
    · exfalso; omega
    · exact hw.2 (i + 1) (j + 1) (by omega) (by omega)
theorem bk_set {B : List L3} {j : Nat} {q : L3} (hj : j < B.length) (k : Nat) : bk (B.set j q) k = if k = j then q else bk B k := by
  unfold bk
  rw [List.getD_eq_getElem?_getD, List.getElem?_set]
  by_cases e : j = k
  · rw [if_pos e, if_pos hj, if_pos e.symm]; rfl
  · rw [if_neg e, if_neg (fun q => e q.symm), List.getD_eq_getElem?_getD]
theorem set_wf {B : List L3} (hw : wfB B) {j g : Nat} (hj : j < B.length) (hg : g ≤ 16) : wfB (B.set j ((bk B j).1, (bk B j).2.1, g)) := by
  have key : ∀ k, (bk (B.set j ((bk B j).1, (bk B j).2.1, g)) k).1 = (bk B k).1 ∧ (bk (B.set j ((bk B j).1, (bk B j).2.1, g)) k).2.1 = (bk B k).2.1 := by
    intro k
    rw [bk_set hj]
    by_cases e : k = j
    · rw [if_pos e, e]; exact ⟨rfl, rfl⟩
    · rw [if_neg e]; exact ⟨rfl, rfl⟩
  refine ⟨fun i hi => ?_, fun i k hik hk => ?_⟩
  · rw [List.length_set] at hi
    have w := hw.1 i hi
    unfold wfL
    rw [(key i).1, (key i).2]
    refine ⟨w.1, w.2.1, ?_, w.2.2.2⟩
    rw [bk_set hj]
    split
    · exact hg
    · exact w.2.2.1
  · rw [List.length_set] at hk
    unfold ltL
    rw [(key i).1, (key i).2, (key k).1, (key k).2]
    exact hw.2 i k hik hk
theorem one_ne : ¬ (1 : Int32) = 0 := by decide
theorem op_put {MC MR : gMem} (h : Inv MC MR) (x1 x2 x3 x4 : Int32) : ∃ r MC' MR', mX7_put MC x1 x2 x3 x4 = some (r, MC') ∧ mX8_put MR x1 x2 x3 x4 = some (r, MR') ∧ Inv MC' MR' := by
  obtain ⟨bks, hb, h26, h30, hc⟩ := id h
  rw [mX7_put, mX8_put]
  rcases book_cases x1 with ⟨b, h6, rfl, e1, e2⟩ | ⟨e1, e2⟩
  rotate_left
  · rw [e1, e2, Option.bind_some, Option.bind_some, if_pos rfl, if_pos rfl]; exact ⟨_, _, _, rfl, rfl, h⟩
  rw [e1, e2, Option.bind_some, Option.bind_some, if_neg one_ne, if_neg one_ne]
  rcases beg_cases x2 x3 with ⟨a, n, ha, hn, rfl, rfl, hd, e1, e2⟩ | ⟨e1, e2, -⟩
  rotate_left
  · rw [e1, e2, Option.bind_some, Option.bind_some, if_pos rfl, if_pos rfl]; exact ⟨_, _, _, rfl, rfl, h⟩
  rw [e1, e2, Option.bind_some, Option.bind_some, if_neg one_ne, if_neg one_ne]
  rcases goal_cases x4 with ⟨g, hg, rfl, e1, e2⟩ | ⟨e1, e2⟩
  rotate_left
  · rw [e1, e2, Option.bind_some, Option.bind_some, if_pos rfl, if_pos rfl]; exact ⟨_, _, _, rfl, rfl, h⟩
  rw [e1, e2, Option.bind_some, Option.bind_some, if_neg one_ne, if_neg one_ne]
  have hL := hb.1 b h6
  have hR := hb.2.1 b h6
  have hw := hb.2.2 b h6
  have hln := lnB h6
  have hlen := hR.1
  obtain ⟨p, ep, p1, p2, p3⟩ := m_placeOf hL hw ha hn
  rw [ckI (n := 6) h6 (by omega), nI_cl (by omega), ep, Option.bind_some, m_isAt hL (by omega), Option.bind_some, r_number ha, Option.bind_some]
  have inj : ∀ k, k < (bks b).length → (lN (bk (bks b) k).1 = lN a ∧ nI (bk (bks b) k).2.1 = nI n → (bk (bks b) k).1 = a ∧ (bk (bks b) k).2.1 = n) := by
    intro k hk q
    have w := hw.1 k hk
    have w1 := w.1
    have w2 := w.2.1
    exact ⟨(lN_inj (by omega) (by omega)).mp q.1, (nI_inj (by omega) (by omega)).mp q.2⟩
  by_cases hat : p < (bks b).length ∧ nI (bk (bks b) p).1 = nI a ∧ nI (bk (bks b) p).2.1 = nI n
  · have w := hw.1 p hat.1
    have w1 := w.1
    have w2 := w.2.1
    have q1 := (nI_inj w1 ha).mp hat.2.1
    have q2 := (nI_inj (by omega) (by omega)).mp hat.2.2
    rw [decide_eq_true hat, if_neg (show ¬ bz true = 0 from one_ne), ckI (by omega) (by omega), nI_cl (by omega), nmd]
    have hr : mX8_at MR (nI b) (lN a) (nI n) = some (nI p) := by
      rcases r_at h6 hR (lN a) (nI n) with ⟨j, f1, f2, f3⟩ | ⟨f1, f2⟩
      · have z := inj j f2 f3
        by_cases e : j = p
        · rw [f1, e]
        · exfalso
          rcases Nat.lt_or_gt_of_ne e with e | e
          · have := hw.2 j p e hat.1; unfold ltL at this; omega
          · have := hw.2 p j e f2; unfold ltL at this; omega
      · exact absurd ⟨by rw [q1], hat.2.2⟩ (f2 p hat.1)
    rw [hr, Option.bind_some, if_neg (nI_m1 (by omega)), ix64, ckJ h6 (by omega), nI_cl (by omega), nmd]
    refine ⟨_, _, _, rfl, rfl, ?_⟩
    refine Inv.book hb h26 h30 hc h6 (B := (bks b).set p ((bk (bks b) p).1, (bk (bks b) p).2.1, g)) (sI_Off (by omega)) ?_ ?_ ?_ (set_wf hw hat.1 hg)
    · obtain ⟨a1, a2, a3, a4, a5⟩ := hL
      refine ⟨by rw [List.length_set]; exact a1, a2, by rw [sI1, if_neg (by omega), List.length_set]; exact a3, by rw [sI1, if_neg (by omega)]; exact a4, fun k hk => ?_⟩
      rw [List.length_set] at hk
      rw [sI1, sI1, sI1, if_neg (by omega), if_neg (by omega), bk_set hat.1]
      by_cases e : k = p
      · have c1 : 2 + 4 * b + 3 = 2 + 4 * b + 3 ∧ k = p := ⟨rfl, e⟩
        rw [if_pos c1, if_pos e]
        subst e
        exact ⟨(a5 k hk).1, (a5 k hk).2.1, rfl⟩
      · have c1 : ¬ (2 + 4 * b + 3 = 2 + 4 * b + 3 ∧ k = p) := fun q => e q.2
        rw [if_neg c1, if_neg e]
        exact a5 k hk
    · refine ⟨fun k a1 a2 a3 => (sI_off k a3).1, fun _ _ => rfl, fun j _ => by rw [sI1, if_neg (by omega)], fun j hj => ⟨rfl, by rw [sI1, if_neg (by omega)], by rw [sI1, if_neg (by omega)]⟩⟩
    · obtain ⟨a1, a2, a3⟩ := hR
      refine ⟨by rw [List.length_set]; exact a1, by rw [sI1, if_neg (by omega), List.length_set]; exact a2, fun k hk => ?_⟩
      rw [List.length_set] at hk
      rw [sI2, sI1, sI1, if_neg (by omega), bk_set hat.1]
      by_cases e : k = p
      · have c1 : 4 = 4 ∧ 64 * b + k = 64 * b + p := ⟨rfl, by rw [e]⟩
        rw [if_pos c1, if_pos e]
        subst e
        exact ⟨(a3 k hk).1, (a3 k hk).2.1, rfl⟩
      · have c1 : ¬ (4 = 4 ∧ 64 * b + k = 64 * b + p) := by omega
        rw [if_neg c1, if_neg e]
        exact a3 k hk
  · rw [decide_eq_false hat, if_pos (show bz false = 0 from rfl)]
    have hno : ∀ k, k < (bks b).length → ¬ ((bk (bks b) k).1 = a ∧ (bk (bks b) k).2.1 = n) := by
      intro k hk q
      by_cases e : k < p
      · have := p2 k e; unfold ltK at this; omega
      · by_cases e2 : k = p
        · subst e2; exact hat ⟨hk, by rw [q.1], by rw [q.2]⟩
        · have z := hw.2 p k (by omega) hk
          have z2 := p3 p (Nat.le_refl _) (by omega)
          unfold ltL at z
          unfold ltK at z2
          omega
    have hr : mX8_at MR (nI b) (lN a) (nI n) = some (-1) := by
      rcases r_at h6 hR (lN a) (nI n) with ⟨j, f1, f2, f3⟩ | ⟨f1, f2⟩
      · exact absurd (inj j f2 f3) (hno j f2)
      · exact f1
    rw [hr, Option.bind_some, if_pos rfl, ckI (n := 6) h6 (by omega), hR.2.1]
    by_cases hf : (bks b).length = 64
    · rw [if_pos (by rw [hf]; rfl), m_insert_full hL (by omega), Option.bind_some, if_pos rfl]
      exact ⟨_, _, _, rfl, rfl, h⟩
    · rw [if_neg (show ¬ nI (bks b).length = 64 from fun e => hf ((nI_inj (b := 64) (by omega) (by omega)).mp e)), Option.bind_some]
      obtain ⟨M1, e1, o1, l1⟩ := m_insert (a := a) (n := n) (g := g) hL p1 (by omega)
      obtain ⟨M2, e2, o2, l2⟩ := r_comes (g := g) h6 hR ha hn hw (by omega) p1 p2 (fun k k1 k2 => ⟨p3 k k1 k2, hno k k2⟩)
      rw [e1, e2, Option.bind_some, Option.bind_some, if_neg one_ne]
      exact ⟨_, _, _, rfl, rfl, Inv.book hb h26 h30 hc h6 o1 l1 o2 l2 (ins_wf hw p1 ⟨ha, hn, hg, hd⟩ p2 (fun k k1 k2 => ⟨p3 k k1 k2, hno k k2⟩))⟩
