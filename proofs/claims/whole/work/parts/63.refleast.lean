/-! the reference's LEAST LINES -/
def LK (M M' : gMem) : Prop := RK M M' ∧ M'.1 0 = M.1 0 ∧ M'.2 5 = M.2 5 ∧ M'.1 6 = M.1 6 ∧ M'.1 7 = M.1 7 ∧ M'.2 8 = M.2 8 ∧ M'.1 9 = M.1 9
theorem LK.rf {M : gMem} : LK M M := ⟨RK.rf, rfl, rfl, rfl, rfl, rfl, rfl⟩
theorem LK.tr {M M1 M2 : gMem} (h : LK M M1) (g : LK M1 M2) : LK M M2 :=
  ⟨h.1.tr g.1, g.2.1.trans h.2.1, g.2.2.1.trans h.2.2.1, g.2.2.2.1.trans h.2.2.2.1, g.2.2.2.2.1.trans h.2.2.2.2.1, g.2.2.2.2.2.1.trans h.2.2.2.2.2.1, g.2.2.2.2.2.2.trans h.2.2.2.2.2.2⟩
theorem sI_LK {M : gMem} {k j : Nat} {v : Int32} (h : 10 ≤ k) (h2 : k ≤ 16) : LK M (sI M k j v) := ⟨sI_RK (by omega) (by omega), (sI_off _ (by omega)).1, rfl, (sI_off _ (by omega)).1, (sI_off _ (by omega)).1, rfl, (sI_off _ (by omega)).1⟩
theorem sJ_LK {M : gMem} {k j : Nat} {v : Int64} (h : 10 ≤ k) (h2 : k ≤ 16) : LK M (sJ M k j v) := ⟨sJ_RK (by omega) (by omega), rfl, (sJ_off _ (by omega)).2, rfl, rfl, (sJ_off _ (by omega)).2, rfl⟩
/-- SPANS and SETS are made -/
def RS (M : gMem) (R : List P2) (F : Nat → Nat) : Prop := SPR M R ∧ ∀ k, 1 ≤ k → k ≤ 32 → TBc M F R k
theorem RS.lk {M M' : gMem} {R : List P2} {F : Nat → Nat} (h : RS M R F) (l : LK M M') : RS M' R F := by
  obtain ⟨h1, h2⟩ := h
  refine ⟨⟨h1.1, by rw [l.2.1]; exact h1.2.1, fun i hi => by rw [l.2.2.1, l.2.2.2.1]; exact h1.2.2 i hi⟩, fun k k1 k2 => ?_⟩
  obtain ⟨L, a, b⟩ := h2 k k1 k2
  refine ⟨L, ⟨a.1, a.2.1, by rw [l.2.2.2.2.1]; exact a.2.2.1, fun j hj => ?_⟩, b⟩
  rw [l.2.2.2.2.2.1, l.2.2.2.2.2.2]; exact a.2.2.2 j hj
def HM (M : gMem) (H : List P2) : Prop := ∀ i, i < H.length → M.2 10 i = lN (ck2 H i).1 ∧ M.1 11 i = nI (ck2 H i).2
def NM (M : gMem) (X : List P2) : Prop := ∀ i, i < X.length → M.2 12 i = lN (ck2 X i).1 ∧ M.1 13 i = nI (ck2 X i).2
def MD (M : gMem) (A : List L3) : Prop := ∀ i, i < A.length → i < 64 → M.2 14 i = lN (bk A i).1 ∧ M.1 15 i = nI (bk A i).2.1 ∧ M.1 16 i = nI (bk A i).2.2
theorem MD_add {M : gMem} {A : List L3} {q : L3} (h : MD M A) (hl : A.length < 64) : MD (sI (sI (sJ M 14 A.length (lN q.1)) 15 A.length (nI q.2.1)) 16 A.length (nI q.2.2)) (A ++ [q]) := by
  intro i hi h64
  rw [List.length_append, List.length_singleton] at hi
  have a1 : (sI (sI (sJ M 14 A.length (lN q.1)) 15 A.length (nI q.2.1)) 16 A.length (nI q.2.2)).2 14 i = if i = A.length then lN q.1 else M.2 14 i := by
    rw [sI2, sI2, sJ2]
    by_cases c : i = A.length
    · rw [if_pos c, if_pos ⟨rfl, c⟩]
    · rw [if_neg c, if_neg (fun z => c z.2)]
  have a2 : (sI (sI (sJ M 14 A.length (lN q.1)) 15 A.length (nI q.2.1)) 16 A.length (nI q.2.2)).1 15 i = if i = A.length then nI q.2.1 else M.1 15 i := by
    rw [sI1, if_neg (by omega), sI1, sJ1]
    by_cases c : i = A.length
    · rw [if_pos c, if_pos ⟨rfl, c⟩]
    · rw [if_neg c, if_neg (fun z => c z.2)]
  have a3 : (sI (sI (sJ M 14 A.length (lN q.1)) 15 A.length (nI q.2.1)) 16 A.length (nI q.2.2)).1 16 i = if i = A.length then nI q.2.2 else M.1 16 i := by
    rw [sI1]
    by_cases c : i = A.length
    · rw [if_pos c, if_pos ⟨rfl, c⟩]
    · rw [if_neg c, if_neg (fun z => c z.2), sI1, if_neg (by omega), sJ1]
  rw [a1, a2, a3, bk_app i (by omega)]
  by_cases c : i = A.length
  · rw [if_pos c, if_pos c, if_pos c, if_neg (by omega)]; exact ⟨rfl, rfl, rfl⟩
  · rw [if_neg c, if_neg c, if_neg c, if_pos (by omega)]; exact h i (by omega) h64
theorem MD_full {M : gMem} {A B : List L3} (h : MD M A) (hl : 64 ≤ A.length) : MD M (A ++ B) := by
  intro i hi h64
  have e : bk (A ++ B) i = bk A i := by
    unfold bk
    rw [List.getD_eq_getElem?_getD, List.getElem?_append_left (by omega), List.getD_eq_getElem?_getD]
  rw [e]; exact h i (by omega) h64
theorem MD_keep {M M' : gMem} {A : List L3} (h : MD M A) (e : M'.2 14 = M.2 14 ∧ M'.1 15 = M.1 15 ∧ M'.1 16 = M.1 16) : MD M' A := by
  intro i h1 h2
  rw [e.1, e.2.1, e.2.2]; exact h i h1 h2
theorem nI_b {k : Nat} (hk : k + 1 ≤ 32) : nI (32 - (k + 1)) + (1 : Int32) = nI (32 - k) := by rw [nI_1]; congr 1; omega
theorem goes_eq {s c : Nat} (hs : isZ s) : goes s c = c ↔ hasG s c := by
  constructor
  · intro h
    have := goes_has (c := c) hs
    rw [h] at this; exact this
  · exact goes_in
/-- what one node writes -/
theorem r_own {F : Nat → Nat} (hF : ∀ x, F x ≤ 16) {M : gMem} {A : List L3} {k i : Nat} {H : List P2} (hk : k ≤ 32) (hi : i < H.length) (h600 : H.length ≤ 600) (hH : HM M H) (hA : MD M A) (hc : (ck2 H i).2 ≤ 16) (hl : (ck2 H i).1 < 4294967296) (hAl : A.length < 100000) (k25 : gMem → Int32 → Int32 → Int32 → Option (Int32 × gMem)) (k41 : gMem → Int32 → Int32 → Int32 → Int32 → Int32 → Option (Int32 × gMem)) (x4 : Int32) : ∃ M', mX8_makeLeast_92 k25 k41 M (nI A.length) (nI H.length) (nI (32 - k)) x4 (nI i) (nI (goes (mset F k (ck2 H i).1) (ck2 H i).2)) = mX8_makeLeast_143 k25 k41 M' (nI (A ++ oX F k (ck2 H i)).length) (nI H.length) (nI (32 - k)) x4 (nI i) (nI (goes (mset F k (ck2 H i).1) (ck2 H i).2)) ∧ MD M' (A ++ oX F k (ck2 H i)) ∧ LK M M' ∧ M'.2 10 = M.2 10 ∧ M'.1 11 = M.1 11 ∧ M'.2 12 = M.2 12 ∧ M'.1 13 = M.1 13 := by
  have hz := mset_isZ hF k (ck2 H i).1
  have g16 := goes_le (c := (ck2 H i).2) hz
  obtain ⟨e1, e2⟩ := hH i hi
  rw [mX8_makeLeast_92, ckI (by omega) (by omega), nI_cl (by omega), e2]
  by_cases c : hasG (mset F k (ck2 H i).1) (ck2 H i).2
  · rw [if_pos (by rw [goes_in c])]
    unfold oX
    rw [ownL_in c, List.append_nil]
    exact ⟨M, rfl, hA, LK.rf, rfl, rfl, rfl, rfl⟩
  · have ne : ¬ goes (mset F k (ck2 H i).1) (ck2 H i).2 = (ck2 H i).2 := fun z => c ((goes_eq hz).mp z)
    have eo : oX F k (ck2 H i) = [((ck2 H i).1, 32 - k, goes (mset F k (ck2 H i).1) (ck2 H i).2)] := by
      have c' : ¬ (mset F k (ck2 H i).1).testBit (ck2 H i).2 = true := c
      unfold oX ownL goes
      rw [if_neg c', if_neg c']
    rw [if_neg (fun z => ne ((nI_inj (by omega) (by omega)).mp z)), eo, List.length_append, List.length_singleton]
    by_cases f : 64 ≤ A.length
    · rw [if_pos (show (64 : Int32) ≤ nI A.length from nI_le (a := 64) f (by omega)), nmd, nI_1]
      exact ⟨M, rfl, MD_full hA f, LK.rf, rfl, rfl, rfl, rfl⟩
    · rw [if_neg (show ¬ (64 : Int32) ≤ nI A.length from nI_ge (b := 64) (by omega) (by omega)), ckI (by omega) (by omega), ckI (by omega) (by omega), nI_cl (by omega), e1, nmd, ckI (by omega) (by omega), nmd, ckI (by omega) (by omega), nmd, nmd, nI_1]
      refine ⟨_, rfl, MD_add (q := ((ck2 H i).1, 32 - k, goes (mset F k (ck2 H i).1) (ck2 H i).2)) hA (by omega), ((sJ_LK (by omega) (by omega)).tr (sI_LK (by omega) (by omega))).tr (sI_LK (by omega) (by omega)), ?_, ?_, ?_, ?_⟩
      · rw [sI2, sI2, (sJ_off _ (by omega)).2]
      · rw [(sI_off _ (by omega)).1, (sI_off _ (by omega)).1, sJ1]
      · rw [sI2, sI2, (sJ_off _ (by omega)).2]
      · rw [(sI_off _ (by omega)).1, (sI_off _ (by omega)).1, sJ1]
theorem NM_add2 {M : gMem} {X : List P2} {p g r : Nat} (h : NM M X) : NM (sI (sJ (sI (sJ M 12 X.length (lN p)) 13 X.length (nI g)) 12 (X.length + 1) (lN r)) 13 (X.length + 1) (nI g)) (X ++ [(p, g), (r, g)]) := by
  intro i hi
  rw [List.length_append] at hi
  have hi2 : i < X.length + 2 := hi
  have a1 : (sI (sJ (sI (sJ M 12 X.length (lN p)) 13 X.length (nI g)) 12 (X.length + 1) (lN r)) 13 (X.length + 1) (nI g)).2 12 i = if i = X.length + 1 then lN r else if i = X.length then lN p else M.2 12 i := by
    rw [sI2, sJ2, sI2, sJ2]
    by_cases c : i = X.length + 1
    · rw [if_pos c, if_pos ⟨rfl, c⟩]
    · rw [if_neg c, if_neg (fun z => c z.2)]
      by_cases c2 : i = X.length
      · rw [if_pos c2, if_pos ⟨rfl, c2⟩]
      · rw [if_neg c2, if_neg (fun z => c2 z.2)]
  have a2 : (sI (sJ (sI (sJ M 12 X.length (lN p)) 13 X.length (nI g)) 12 (X.length + 1) (lN r)) 13 (X.length + 1) (nI g)).1 13 i = if i = X.length + 1 then nI g else if i = X.length then nI g else M.1 13 i := by
    rw [sI1, sJ1, sI1, sJ1]
    by_cases c : i = X.length + 1
    · rw [if_pos c, if_pos ⟨rfl, c⟩]
    · rw [if_neg c, if_neg (fun z => c z.2)]
      by_cases c2 : i = X.length
      · rw [if_pos c2, if_pos ⟨rfl, c2⟩]
      · rw [if_neg c2, if_neg (fun z => c2 z.2)]
  have e : ck2 (X ++ [(p, g), (r, g)]) i = if i = X.length + 1 then (r, g) else if i = X.length then (p, g) else ck2 X i := by
    unfold ck2
    rw [List.getD_eq_getElem?_getD]
    by_cases c : i < X.length
    · rw [List.getElem?_append_left c, if_neg (by omega), if_neg (by omega), List.getD_eq_getElem?_getD]
    · rw [List.getElem?_append_right (by omega)]
      by_cases c2 : i = X.length
      · rw [if_neg (by omega), if_pos c2, show i - X.length = 0 by omega]; rfl
      · rw [if_pos (by omega), show i - X.length = 1 by omega]; rfl
  rw [a1, a2, e]
  by_cases c : i = X.length + 1
  · rw [if_pos c, if_pos c, if_pos c]; exact ⟨rfl, rfl⟩
  · rw [if_neg c, if_neg c, if_neg c]
    by_cases c2 : i = X.length
    · rw [if_pos c2, if_pos c2, if_pos c2]; exact ⟨rfl, rfl⟩
    · rw [if_neg c2, if_neg c2, if_neg c2]; exact h i (by omega)
theorem r_least_41 {F : Nat → Nat} (hF : ∀ x, F x ≤ 16) {R : List P2} (hp : pruns F R 4294967296) {k : Nat} {A : List L3} {H : List P2} (hk : k + 1 ≤ 32) (h600 : H.length ≤ 600) (hO : lvO (k + 1) H) (hX : (H.flatMap (sX F R k)).length ≤ 600) (hAl : A.length + 600 < 100000) (k25 : gMem → Int32 → Int32 → Int32 → Option (Int32 × gMem)) : ∀ f i (M : gMem), i ≤ H.length → H.length - i < f → RS M R F → HM M H → MD M (A ++ fm (oX F (k + 1)) H i) → NM M (fm (sX F R k) H i) → ∃ M', mX8_makeLeast_41 k25 f M (nI (A ++ fm (oX F (k + 1)) H i).length) (nI H.length) (nI (32 - (k + 1))) (nI (fm (sX F R k) H i).length) (nI i) = mX8_makeLeast_232 k25 FU M' (nI (A ++ H.flatMap (oX F (k + 1))).length) 0 (nI (32 - (k + 1))) (nI (H.flatMap (sX F R k)).length) 0 ∧ MD M' (A ++ H.flatMap (oX F (k + 1))) ∧ NM M' (H.flatMap (sX F R k)) ∧ LK M M' := by
  intro f
  induction f with
  | zero => intro i M _ h; omega
  | succ f ih =>
    intro i M hi hf hRS hH hA hN
    have bl := fm_le (oX F (k + 1)) H (fun q => oX_le q) i
    rw [mX8_makeLeast_41]
    by_cases z : i < H.length
    · have q2 := hO.2 _ (ck2_mem z)
      have pk := pw_pos (k + 1)
      have p2 := pw_succ k
      have hz := mset_isZ hF (k + 1) (ck2 H i).1
      obtain ⟨e1, e2⟩ := hH i z
      have so := r_setAt hF hRS.1 hp hRS.2 hk q2.2.1 q2.1
      have xl := fm_len (sX F R k) H (show i + 1 ≤ H.length by omega)
      rw [fm_all] at xl
      -- behind the writing of the node's own LINE
      have tail : ∀ M1, MD M1 (A ++ fm (oX F (k + 1)) H i ++ oX F (k + 1) (ck2 H i)) → LK M M1 → M1.2 10 = M.2 10 → M1.1 11 = M.1 11 → M1.2 12 = M.2 12 → M1.1 13 = M.1 13 → ∃ M', mX8_makeLeast_143 k25 (mX8_makeLeast_41 k25 f) M1 (nI (A ++ fm (oX F (k + 1)) H i ++ oX F (k + 1) (ck2 H i)).length) (nI H.length) (nI (32 - (k + 1))) (nI (fm (sX F R k) H i).length) (nI i) (nI (goes (mset F (k + 1) (ck2 H i).1) (ck2 H i).2)) = mX8_makeLeast_232 k25 FU M' (nI (A ++ H.flatMap (oX F (k + 1))).length) 0 (nI (32 - (k + 1))) (nI (H.flatMap (sX F R k)).length) 0 ∧ MD M' (A ++ H.flatMap (oX F (k + 1))) ∧ NM M' (H.flatMap (sX F R k)) ∧ LK M M' := by
        intro M1 mA l1 m10 m11 m12 m13
        have hRS1 := hRS.lk l1
        have hH1 : HM M1 H := fun j hj => by rw [m10, m11]; exact hH j hj
        have hN1 : NM M1 (fm (sX F R k) H i) := fun j hj => by rw [m12, m13]; exact hN j hj
        have eA : A ++ fm (oX F (k + 1)) H i ++ oX F (k + 1) (ck2 H i) = A ++ fm (oX F (k + 1)) H (i + 1) := by rw [fm, List.append_assoc]
        rw [eA] at mA ⊢
        rw [mX8_makeLeast_143, ckI (by omega) (by omega), nI_cl (by omega), (hH1 i z).1, r_isOne hRS1.1 hp hk q2.2.1, Option.bind_some]
        by_cases c : one R (ck2 H i).1 (k + 1)
        · have eX : fm (sX F R k) H (i + 1) = fm (sX F R k) H i := by
            rw [fm]
            unfold sX
            rw [dB_t c, if_pos rfl, List.append_nil]
          rw [dB_t c, if_neg (show ¬ bz true = 0 from one_ne), nmd, nI_1]
          obtain ⟨M', r1, r2, r3, r4⟩ := ih (i + 1) M1 (by omega) (by omega) hRS1 hH1 mA (by rw [eX]; exact hN1)
          rw [eX] at r1
          exact ⟨M', r1, r2, r3, l1.tr r4⟩
        · have eX : fm (sX F R k) H (i + 1) = fm (sX F R k) H i ++ [((ck2 H i).1, goes (mset F (k + 1) (ck2 H i).1) (ck2 H i).2), ((ck2 H i).1 + 2 ^ k, goes (mset F (k + 1) (ck2 H i).1) (ck2 H i).2)] := by
            rw [fm]
            congr 1
            unfold sX
            rw [dB_f c, if_neg (by simp)]
          have eL : (fm (sX F R k) H (i + 1)).length = (fm (sX F R k) H i).length + 2 := by rw [eX, List.length_append]; rfl
          rw [dB_f c, if_pos (show bz false = 0 from rfl), ckI (by omega) (by omega), ckI (by omega) (by omega), nI_cl (by omega), nmd, ckI (by omega) (by omega), nmd, ckI (by omega) (by omega), nI_b hk, r_size (by omega), show 32 - (32 - k) = k by omega, Option.bind_some, nI_1, ckI (by omega) (by omega), nI_cl (by omega)]
          have x10 : (sI (sJ M1 12 (fm (sX F R k) H i).length (lN (ck2 H i).1)) 13 (fm (sX F R k) H i).length (nI (goes (mset F (k + 1) (ck2 H i).1) (ck2 H i).2))).2 10 i = lN (ck2 H i).1 := by
            rw [sI2, (sJ_off _ (by omega)).2]; exact (hH1 i z).1
          rw [x10, lN_add, nmd, ckI (by omega) (by omega), nmd, nmd, nmd, nI_1, show (2 : Int32) = nI 2 from rfl, nI_add, ← eL]
          have nn := NM_add2 (p := (ck2 H i).1) (g := goes (mset F (k + 1) (ck2 H i).1) (ck2 H i).2) (r := (ck2 H i).1 + 2 ^ k) hN1
          rw [← eX] at nn
          obtain ⟨M2, eM2⟩ : ∃ M2, M2 = sI (sJ (sI (sJ M1 12 (fm (sX F R k) H i).length (lN (ck2 H i).1)) 13 (fm (sX F R k) H i).length (nI (goes (mset F (k + 1) (ck2 H i).1) (ck2 H i).2))) 12 ((fm (sX F R k) H i).length + 1) (lN ((ck2 H i).1 + 2 ^ k))) 13 ((fm (sX F R k) H i).length + 1) (nI (goes (mset F (k + 1) (ck2 H i).1) (ck2 H i).2)) := ⟨_, rfl⟩
          rw [← eM2] at nn ⊢
          have l2 : LK M1 M2 := by
            rw [eM2]
            exact (((sJ_LK (by omega) (by omega)).tr (sI_LK (by omega) (by omega))).tr (sJ_LK (by omega) (by omega))).tr (sI_LK (by omega) (by omega))
          have o2 : ∀ w, w ≠ 12 → w ≠ 13 → M2.1 w = M1.1 w ∧ M2.2 w = M1.2 w := by
            intro w w1 w2
            rw [eM2]
            exact ⟨by rw [(sI_off _ w2).1, sJ1, (sI_off _ w2).1, sJ1], by rw [sI2, (sJ_off _ w1).2, sI2, (sJ_off _ w1).2]⟩
          obtain ⟨M', r1, r2, r3, r4⟩ := ih (i + 1) M2 (by omega) (by omega) (hRS1.lk l2) (fun j hj => by rw [(o2 10 (by omega) (by omega)).2, (o2 11 (by omega) (by omega)).1]; exact hH1 j hj) (MD_keep mA ⟨(o2 14 (by omega) (by omega)).2, (o2 15 (by omega) (by omega)).1, (o2 16 (by omega) (by omega)).1⟩) nn
          exact ⟨M', r1, r2, r3, (l1.tr l2).tr r4⟩
      have al1 : (A ++ fm (oX F (k + 1)) H i).length < 100000 := by rw [List.length_append]; omega
      rw [if_neg (nI_ge z (by omega)), ckI (by omega) (by omega), nI_cl (by omega), e1, so, Option.bind_some, ckI (by omega) (by omega), e2]
      obtain ⟨M1, w1, w2, w3, w4, w5, w6, w7⟩ := r_own hF hk z h600 hH hA q2.2.2 (by omega) al1 k25 (mX8_makeLeast_41 k25 f) (nI (fm (sX F R k) H i).length)
      by_cases c : hasG (mset F (k + 1) (ck2 H i).1) (ck2 H i).2
      · rw [if_pos ((r_test hz q2.2.2).mpr c), ckI (by omega) (by omega)]
        rw [goes_in c] at w1
        have t := tail M1 w2 w3 w4 w5 w6 w7
        rw [goes_in c, ← w1] at t
        exact t
      · rw [if_neg (fun y => c ((r_test hz q2.2.2).mp y)), r_lowest hz, Option.bind_some]
        have gl : goes (mset F (k + 1) (ck2 H i).1) (ck2 H i).2 = lowB (mset F (k + 1) (ck2 H i).1) := if_neg c
        have t := tail M1 w2 w3 w4 w5 w6 w7
        rw [← w1, gl] at t
        exact t
    · have ei : i = H.length := by omega
      subst ei
      rw [if_pos (nI_le (by omega) (by omega))]
      rw [fm_all] at hA hN
      rw [fm_all, fm_all]
      exact ⟨M, rfl, hA, hN, LK.rf⟩
