/-! the reference's BOOKS -/
def wrR (M : gMem) (j : Nat) (a : Int64) (n g : Int32) : gMem := sI (sI (sJ M 2 j a) 3 j n) 4 j g
theorem wrR_2 {M : gMem} {j : Nat} {a : Int64} {n g : Int32} (k : Nat) : (wrR M j a n g).2 2 k = if k = j then a else M.2 2 k := by
  unfold wrR; rw [sI2, sI2, sJ2]; by_cases h : k = j <;> simp [h]
theorem wrR_3 {M : gMem} {j : Nat} {a : Int64} {n g : Int32} (k : Nat) : (wrR M j a n g).1 3 k = if k = j then n else M.1 3 k := by
  unfold wrR; rw [sI1, sI1, sJ1]; by_cases h : k = j <;> simp [h]
theorem wrR_4 {M : gMem} {j : Nat} {a : Int64} {n g : Int32} (k : Nat) : (wrR M j a n g).1 4 k = if k = j then g else M.1 4 k := by
  unfold wrR; rw [sI1, sI1, sJ1]; by_cases h : k = j <;> simp [h]
theorem wrR_o1 {M : gMem} {j : Nat} {a : Int64} {n g : Int32} (k : Nat) (h3 : k ≠ 3) (h4 : k ≠ 4) : (wrR M j a n g).1 k = M.1 k := by
  unfold wrR
  rw [(sI_off k h4).1, (sI_off k h3).1, sJ1]
theorem wrR_o2 {M : gMem} {j : Nat} {a : Int64} {n g : Int32} (k : Nat) (h2 : k ≠ 2) : (wrR M j a n g).2 k = M.2 k := by
  unfold wrR
  rw [sI2, sI2]
  exact (sJ_off k h2).2
/-- BOOK b of the reference -/
def RA (M : gMem) (b : Nat) (B : List L3) : Prop := ∀ i, i < B.length → M.2 2 (64 * b + i) = lN (bk B i).1 ∧ M.1 3 (64 * b + i) = nI (bk B i).2.1 ∧ M.1 4 (64 * b + i) = nI (bk B i).2.2
def RB (M : gMem) (b : Nat) (B : List L3) : Prop := B.length ≤ 64 ∧ M.1 1 b = nI B.length ∧ RA M b B
/-- nothing but BOOK b has changed -/
def RO (b : Nat) (M M' : gMem) : Prop := (∀ k, k ≠ 1 → k ≠ 3 → k ≠ 4 → M'.1 k = M.1 k) ∧ (∀ k, k ≠ 2 → M'.2 k = M.2 k) ∧ (∀ j, j ≠ b → M'.1 1 j = M.1 1 j) ∧ ∀ j, (j < 64 * b ∨ 64 * b + 64 ≤ j) → M'.2 2 j = M.2 2 j ∧ M'.1 3 j = M.1 3 j ∧ M'.1 4 j = M.1 4 j
theorem RO.rf {b : Nat} {M : gMem} : RO b M M := ⟨fun _ _ _ _ => rfl, fun _ _ => rfl, fun _ _ => rfl, fun _ _ => ⟨rfl, rfl, rfl⟩⟩
theorem RO.tr {b : Nat} {M M1 M2 : gMem} (h : RO b M M1) (g : RO b M1 M2) : RO b M M2 := ⟨fun k a1 a2 a3 => (g.1 k a1 a2 a3).trans (h.1 k a1 a2 a3), fun k a => (g.2.1 k a).trans (h.2.1 k a), fun j a => (g.2.2.1 j a).trans (h.2.2.1 j a), fun j a => ⟨(g.2.2.2 j a).1.trans (h.2.2.2 j a).1, (g.2.2.2 j a).2.1.trans (h.2.2.2 j a).2.1, (g.2.2.2 j a).2.2.trans (h.2.2.2 j a).2.2⟩⟩
theorem RB.off {b b2 : Nat} {M M' : gMem} {B : List L3} (h : RB M b2 B) (ho : RO b M M') (hb : b2 ≠ b) : RB M' b2 B := by
  obtain ⟨h1, h2, h3⟩ := h
  refine ⟨h1, by rw [ho.2.2.1 b2 hb]; exact h2, fun i hi => ?_⟩
  have := ho.2.2.2 (64 * b2 + i) (by omega)
  rw [this.1, this.2.1, this.2.2]
  exact h3 i hi
theorem wrR_RO {M : gMem} {b i : Nat} {a : Int64} {n g : Int32} (hi : i < 64) : RO b M (wrR M (64 * b + i) a n g) := by
  refine ⟨fun k a1 a2 a3 => wrR_o1 k a2 a3, fun k a => wrR_o2 k a, fun j _ => by rw [wrR_o1 1 (by omega) (by omega)], fun j hj => ?_⟩
  rw [wrR_2, wrR_3, wrR_4, if_neg (by omega), if_neg (by omega), if_neg (by omega)]
  exact ⟨rfl, rfl, rfl⟩
theorem ix64 (b i : Nat) : ((64 : Int32) * nI b) + nI i = nI (64 * b + i) := by
  rw [show (64 : Int32) = nI 64 from rfl, pk_mul, nI_add]
theorem ckJ {α : Type} {b i : Nat} {x : Option α} (hb : b < 6) (hi : i < 64) : ck (inb (nI (64 * b + i)) 384) x = x := ckI (by omega) (by omega)
theorem r_moves {M : gMem} {b i t : Nat} (hb : b < 6) (hi : i < 64) (ht : t < 64) : mX8_moves M (nI b) (nI i) (nI t) = some (wrR M (64 * b + t) (M.2 2 (64 * b + i)) (M.1 3 (64 * b + i)) (M.1 4 (64 * b + i))) := by
  rw [mX8_moves, ix64, ix64, ckJ hb hi, ckJ hb ht, nmd, ckJ hb hi, ckJ hb ht, nmd, ckJ hb hi, ckJ hb ht, nmd, nI_cl (by omega), nI_cl (by omega), sI1, if_neg (by omega)]
  rfl
theorem r_at_loop {M : gMem} {b : Nat} {B : List L3} (hb : b < 6) (h : RB M b B) (x : Int64) (y : Int32) : ∀ f i, i ≤ B.length → B.length - i < f → (∃ j, mX8_at_3 f M (nI b) x y (nI i) = some (nI j) ∧ i ≤ j ∧ j < B.length ∧ lN (bk B j).1 = x ∧ nI (bk B j).2.1 = y) ∨ (mX8_at_3 f M (nI b) x y (nI i) = some (-1) ∧ ∀ k, i ≤ k → k < B.length → ¬ (lN (bk B k).1 = x ∧ nI (bk B k).2.1 = y)) := by
  obtain ⟨h1, h2, h3⟩ := h
  intro f
  induction f with
  | zero => intro i _ hf; omega
  | succ f ih =>
    intro i hi hf
    rw [mX8_at_3, ckI (n := 6) hb (by omega), nI_cl (by omega), h2]
    by_cases hl : i < B.length
    · obtain ⟨e1, e2, e3⟩ := h3 i hl
      rw [if_neg (nI_ge hl (by omega)), ix64, ckJ hb (by omega), nI_cl (by omega), e1]
      have next : (¬ (lN (bk B i).1 = x ∧ nI (bk B i).2.1 = y)) → ((∃ j, mX8_at_3 f M (nI b) x y (nI (i + 1)) = some (nI j) ∧ i ≤ j ∧ j < B.length ∧ lN (bk B j).1 = x ∧ nI (bk B j).2.1 = y) ∨ (mX8_at_3 f M (nI b) x y (nI (i + 1)) = some (-1) ∧ ∀ k, i ≤ k → k < B.length → ¬ (lN (bk B k).1 = x ∧ nI (bk B k).2.1 = y))) := by
        intro hne
        rcases ih (i + 1) (by omega) (by omega) with ⟨j, q1, q2, q3, q4⟩ | ⟨q1, q2⟩
        · exact Or.inl ⟨j, q1, by omega, q3, q4⟩
        · refine Or.inr ⟨q1, fun k k1 k2 => ?_⟩
          by_cases e : k = i
          · rw [e]; exact hne
          · exact q2 k (by omega) k2
      by_cases ha : lN (bk B i).1 = x
      · rw [if_pos ha, ckJ hb (by omega), e2]
        by_cases hn : nI (bk B i).2.1 = y
        · rw [if_pos hn]
          exact Or.inl ⟨i, rfl, by omega, hl, ha, hn⟩
        · rw [if_neg hn, nmd, nI_1]
          exact next (fun q => hn q.2)
      · rw [if_neg ha, nmd, nI_1]
        exact next (fun q => ha q.1)
    · rw [if_pos (nI_le (by omega) (by omega))]
      exact Or.inr ⟨rfl, fun k k1 k2 => by omega⟩
theorem r_at {M : gMem} {b : Nat} {B : List L3} (hb : b < 6) (h : RB M b B) (x : Int64) (y : Int32) : (∃ j, mX8_at M (nI b) x y = some (nI j) ∧ j < B.length ∧ lN (bk B j).1 = x ∧ nI (bk B j).2.1 = y) ∨ (mX8_at M (nI b) x y = some (-1) ∧ ∀ k, k < B.length → ¬ (lN (bk B k).1 = x ∧ nI (bk B k).2.1 = y)) := by
  have hf := FU_big
  have h1 := h.1
  rcases r_at_loop hb h x y FU 0 (by omega) (by omega) with ⟨j, q1, q2, q3⟩ | ⟨q1, q2⟩
  · exact Or.inl ⟨j, q1, q3⟩
  · exact Or.inr ⟨q1, fun k hk => q2 k (by omega) hk⟩
theorem r_comes_end {M : gMem} {b p : Nat} {a : Int64} {n g : Int32} (hb : b < 6) (hp : p < 64) : mX8_comes_87 M (nI b) a n g (nI p) = some (sI (wrR M (64 * b + p) a n g) 1 b (M.1 1 b + 1)) := by
  rw [mX8_comes_87, ix64, ckJ hb hp, nmd, ckJ hb hp, nmd, ckJ hb hp, nmd, nI_cl (by omega), ckI (n := 6) hb (by omega), ckI (n := 6) hb (by omega), nI_cl (by omega), nmd]
  have e : (sI (sI (sJ M 2 (64 * b + p) a) 3 (64 * b + p) n) 4 (64 * b + p) g).1 1 b = M.1 1 b := by
    rw [sI1, if_neg (by omega), sI1, if_neg (by omega), sJ1]
  rw [e]
  rfl
theorem r_comes_loop {b a n g p : Nat} {B : List L3} (hb : b < 6) (ha : a < 4294967296) (hn : n ≤ 32) (hw : wfB B) (hl : B.length < 64) (hp : p ≤ B.length) (hlo : ∀ k, k < p → ltK (bk B k) a n) (hhi : ∀ k, p ≤ k → k < B.length → ¬ ltK (bk B k) a n ∧ ¬ ((bk B k).1 = a ∧ (bk B k).2.1 = n)) : ∀ f i (M : gMem), p ≤ i → i ≤ B.length → i < f → (∀ k, k < i → M.2 2 (64 * b + k) = lN (bk B k).1 ∧ M.1 3 (64 * b + k) = nI (bk B k).2.1) → ∃ M', mX8_comes_8 f M (nI b) (lN a) (nI n) (nI g) (nI i) = some M' ∧ RO b M M' ∧ M'.1 1 b = M.1 1 b + 1 ∧ (∀ j, M'.2 2 j = if j < 64 * b + p then M.2 2 j else if j = 64 * b + p then lN a else if j ≤ 64 * b + i then M.2 2 (j - 1) else M.2 2 j) ∧ (∀ j, M'.1 3 j = if j < 64 * b + p then M.1 3 j else if j = 64 * b + p then nI n else if j ≤ 64 * b + i then M.1 3 (j - 1) else M.1 3 j) ∧ (∀ j, M'.1 4 j = if j < 64 * b + p then M.1 4 j else if j = 64 * b + p then nI g else if j ≤ 64 * b + i then M.1 4 (j - 1) else M.1 4 j) := by
  intro f
  induction f with
  | zero => intro i M _ _ h; omega
  | succ f ih =>
    intro i M hpi hi hf hM
    rw [mX8_comes_8]
    have fin : i = p → ∃ M', mX8_comes_87 M (nI b) (lN a) (nI n) (nI g) (nI i) = some M' ∧ RO b M M' ∧ M'.1 1 b = M.1 1 b + 1 ∧ (∀ j, M'.2 2 j = if j < 64 * b + p then M.2 2 j else if j = 64 * b + p then lN a else if j ≤ 64 * b + i then M.2 2 (j - 1) else M.2 2 j) ∧ (∀ j, M'.1 3 j = if j < 64 * b + p then M.1 3 j else if j = 64 * b + p then nI n else if j ≤ 64 * b + i then M.1 3 (j - 1) else M.1 3 j) ∧ (∀ j, M'.1 4 j = if j < 64 * b + p then M.1 4 j else if j = 64 * b + p then nI g else if j ≤ 64 * b + i then M.1 4 (j - 1) else M.1 4 j) := by
      intro e
      subst e
      refine ⟨_, r_comes_end hb (by omega), wrR_RO (by omega) |>.tr ⟨fun k a1 a2 a3 => (sI_off k a1).1, fun k _ => rfl, fun j hj => by rw [sI1, if_neg (by omega)], fun j _ => ⟨rfl, by rw [sI1, if_neg (by omega)], by rw [sI1, if_neg (by omega)]⟩⟩, by rw [sI1, if_pos ⟨rfl, rfl⟩], fun j => ?_, fun j => ?_, fun j => ?_⟩
      · rw [sI2, wrR_2]
        repeat' split
        all_goals first | rfl | (exfalso; omega)
      · rw [sI1, if_neg (by omega), wrR_3]
        repeat' split
        all_goals first | rfl | (exfalso; omega)
      · rw [sI1, if_neg (by omega), wrR_4]
        repeat' split
        all_goals first | rfl | (exfalso; omega)
    have go : p < i → ∃ M', mX8_comes_70 (mX8_comes_8 f) M (nI b) (lN a) (nI n) (nI g) (nI i) = some M' ∧ RO b M M' ∧ M'.1 1 b = M.1 1 b + 1 ∧ (∀ j, M'.2 2 j = if j < 64 * b + p then M.2 2 j else if j = 64 * b + p then lN a else if j ≤ 64 * b + i then M.2 2 (j - 1) else M.2 2 j) ∧ (∀ j, M'.1 3 j = if j < 64 * b + p then M.1 3 j else if j = 64 * b + p then nI n else if j ≤ 64 * b + i then M.1 3 (j - 1) else M.1 3 j) ∧ (∀ j, M'.1 4 j = if j < 64 * b + p then M.1 4 j else if j = 64 * b + p then nI g else if j ≤ 64 * b + i then M.1 4 (j - 1) else M.1 4 j) := by
      intro e
      rw [mX8_comes_70, i32_m1, show nI i - (1 : Int32) = nI (i - 1) from pk_sub (b := 1) (by omega), r_moves hb (by omega) (by omega), Option.bind_some, nmd]
      obtain ⟨M', e1, o, s1, c2, c3, c4⟩ := ih (i - 1) (wrR M (64 * b + i) (M.2 2 (64 * b + (i - 1))) (M.1 3 (64 * b + (i - 1))) (M.1 4 (64 * b + (i - 1)))) (by omega) (by omega) (by omega) (fun k hk => by rw [wrR_2, wrR_3, if_neg (by omega), if_neg (by omega)]; exact hM k (by omega))
      refine ⟨M', e1, (wrR_RO (by omega)).tr o, by rw [s1, wrR_o1 1 (by omega) (by omega)], fun j => ?_, fun j => ?_, fun j => ?_⟩
      · rw [c2, wrR_2, wrR_2]
        repeat' split
        all_goals first | rfl | (exfalso; omega) | exact congrArg (M.2 2) (by omega) | exact congrArg (M.1 3) (by omega) | exact congrArg (M.1 4) (by omega)
      · rw [c3, wrR_3, wrR_3]
        repeat' split
        all_goals first | rfl | (exfalso; omega) | exact congrArg (M.2 2) (by omega) | exact congrArg (M.1 3) (by omega) | exact congrArg (M.1 4) (by omega)
      · rw [c4, wrR_4, wrR_4]
        repeat' split
        all_goals first | rfl | (exfalso; omega) | exact congrArg (M.2 2) (by omega) | exact congrArg (M.1 3) (by omega) | exact congrArg (M.1 4) (by omega)
    by_cases h0 : i = 0
    · rw [if_pos (by rw [h0]; decide)]
      exact fin (by omega)
    · rw [if_neg (nI_nle (by omega) (by omega)), ix64, show nI (64 * b + i) - (1 : Int32) = nI (64 * b + (i - 1)) from by rw [show (1 : Int32) = nI 1 from rfl, pk_sub (by omega), Nat.add_sub_assoc (by omega)], ckJ hb (by omega), nI_cl (by omega), (hM (i - 1) (by omega)).1, (hM (i - 1) (by omega)).2]
      have w := hw.1 (i - 1) (by omega)
      have w1 := w.1
      have w2 := w.2.1
      by_cases he : i = p
      · have q := hlo (i - 1) (by omega)
        have q1 : ¬ a < (bk B (i - 1)).1 := by unfold ltK at q; omega
        rw [if_neg (fun z => q1 ((lN_lt' (by omega) (by omega)).mp z)), ckJ hb (by omega)]
        by_cases q2 : (bk B (i - 1)).1 = a
        · rw [if_pos (by rw [q2]), ckJ hb (by omega), if_pos (nI_le (by unfold ltK at q; omega) (by omega))]
          exact fin he
        · rw [if_neg (fun z => q2 ((lN_inj (by omega) (by omega)).mp z))]
          exact fin he
      · have q := hhi (i - 1) (by omega) (by omega)
        by_cases q1 : a < (bk B (i - 1)).1
        · rw [if_pos ((lN_lt' (by omega) (by omega)).mpr q1)]
          exact go (by omega)
        · have q2 : (bk B (i - 1)).1 = a := by unfold ltK at q; omega
          rw [if_neg (fun z => q1 ((lN_lt' (by omega) (by omega)).mp z)), ckJ hb (by omega), if_pos (by rw [q2]), ckJ hb (by omega), if_neg (nI_ge (by unfold ltK at q; omega) (by omega))]
          exact go (by omega)
theorem r_comes {M : gMem} {b a n g p : Nat} {B : List L3} (hb : b < 6) (h : RB M b B) (ha : a < 4294967296) (hn : n ≤ 32) (hw : wfB B) (hl : B.length < 64) (hp : p ≤ B.length) (hlo : ∀ k, k < p → ltK (bk B k) a n) (hhi : ∀ k, p ≤ k → k < B.length → ¬ ltK (bk B k) a n ∧ ¬ ((bk B k).1 = a ∧ (bk B k).2.1 = n)) : ∃ M', mX8_comes M (nI b) (lN a) (nI n) (nI g) = some M' ∧ RO b M M' ∧ RB M' b (insL B p (a, n, g)) := by
  obtain ⟨h1, h2, h3⟩ := h
  have hf := FU_big
  rw [mX8_comes, ckI (n := 6) hb (by omega), nI_cl (by omega), h2, nmd]
  obtain ⟨M', e, o, s1, c2, c3, c4⟩ := r_comes_loop (g := g) hb ha hn hw hl hp hlo hhi FU B.length M hp (Nat.le_refl _) (by omega) (fun k hk => ⟨(h3 k hk).1, (h3 k hk).2.1⟩)
  refine ⟨M', e, o, by rw [insL_len hp]; omega, by rw [s1, h2, insL_len hp, nI_1], fun k hk => ?_⟩
  rw [insL_len hp] at hk
  rw [c2, c3, c4, insL_bk hp]
  by_cases k1 : k < p
  · have z1 : 64 * b + k < 64 * b + p := by omega
    rw [if_pos z1, if_pos z1, if_pos z1, if_pos k1]
    exact h3 k (by omega)
  · by_cases k2 : k = p
    · have z1 : ¬ 64 * b + k < 64 * b + p := by omega
      have z2 : 64 * b + k = 64 * b + p := by omega
      rw [if_neg z1, if_neg z1, if_neg z1, if_pos z2, if_pos z2, if_pos z2, if_neg k1, if_pos k2]
      exact ⟨rfl, rfl, rfl⟩
    · have z1 : ¬ 64 * b + k < 64 * b + p := by omega
      have z2 : ¬ 64 * b + k = 64 * b + p := by omega
      have z3 : 64 * b + k ≤ 64 * b + B.length := by omega
      rw [if_neg z1, if_neg z1, if_neg z1, if_neg z2, if_neg z2, if_neg z2, if_pos z3, if_pos z3, if_pos z3, if_neg k1, if_neg k2, Nat.add_sub_assoc (by omega)]
      exact h3 (k - 1) (by omega)
