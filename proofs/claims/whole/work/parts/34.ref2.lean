/-! the reference's BOOKS: drop, copy, best -/
theorem r_drop_loop {b n : Nat} (hb : b < 6) (hn : n < 64) : ∀ f i (M : gMem), i ≤ n → n - i < f → M.1 1 b = nI n → ∃ M', mX8_drop_53 f M (nI b) (nI i) = some (1, M') ∧ RO b M M' ∧ M'.1 1 b = M.1 1 b ∧ (∀ j, M'.2 2 j = if 64 * b + i ≤ j ∧ j < 64 * b + n then M.2 2 (j + 1) else M.2 2 j) ∧ (∀ j, M'.1 3 j = if 64 * b + i ≤ j ∧ j < 64 * b + n then M.1 3 (j + 1) else M.1 3 j) ∧ (∀ j, M'.1 4 j = if 64 * b + i ≤ j ∧ j < 64 * b + n then M.1 4 (j + 1) else M.1 4 j) := by
  intro f
  induction f with
  | zero => intro i M _ h; omega
  | succ f ih =>
    intro i M hi hf h1
    rw [mX8_drop_53, ckI (n := 6) hb (by omega), nI_cl (by omega), h1]
    by_cases he : i = n
    · subst he
      rw [if_pos (nI_le (Nat.le_refl _) (by omega))]
      refine ⟨M, rfl, RO.rf, h1, fun j => ?_, fun j => ?_, fun j => ?_⟩ <;> rw [if_neg (by omega)]
    · rw [if_neg (nI_ge (by omega) (by omega)), nI_1, r_moves hb (by omega) (by omega), Option.bind_some, nmd]
      obtain ⟨M', e, o, s1, c2, c3, c4⟩ := ih (i + 1) (wrR M (64 * b + i) (M.2 2 (64 * b + (i + 1))) (M.1 3 (64 * b + (i + 1))) (M.1 4 (64 * b + (i + 1)))) (by omega) (by omega) (by rw [wrR_o1 1 (by omega) (by omega), h1])
      refine ⟨M', e, (wrR_RO (by omega)).tr o, by rw [s1, wrR_o1 1 (by omega) (by omega), h1], fun j => ?_, fun j => ?_, fun j => ?_⟩
      · rw [c2, wrR_2, wrR_2]
        repeat' split
        all_goals first | rfl | (exfalso; omega) | exact congrArg (M.2 2) (by omega)
      · rw [c3, wrR_3, wrR_3]
        repeat' split
        all_goals first | rfl | (exfalso; omega) | exact congrArg (M.1 3) (by omega)
      · rw [c4, wrR_4, wrR_4]
        repeat' split
        all_goals first | rfl | (exfalso; omega) | exact congrArg (M.1 4) (by omega)
theorem sI1_RO {M : gMem} {b : Nat} {v : Int32} : RO b M (sI M 1 b v) := ⟨fun k a1 _ _ => (sI_off k a1).1, fun _ _ => rfl, fun j hj => by rw [sI1, if_neg (by omega)], fun j _ => ⟨rfl, by rw [sI1, if_neg (by omega)], by rw [sI1, if_neg (by omega)]⟩⟩
theorem r_drop_at {M : gMem} {b p : Nat} {B : List L3} (hb : b < 6) (h : RB M b B) (hp : p < B.length) : ∃ M', mX8_drop_29 M (nI b) (nI p) = some (1, M') ∧ RO b M M' ∧ RB M' b (delL B p) := by
  obtain ⟨h1, h2, h3⟩ := h
  have hf := FU_big
  rw [mX8_drop_29, if_neg (nI_m1 (by omega)), ckI (n := 6) hb (by omega), ckI (n := 6) hb (by omega), nI_cl (by omega), h2, nmd, show nI B.length - (1 : Int32) = nI (B.length - 1) from pk_sub (b := 1) (by omega)]
  obtain ⟨M', e, o, s1, c2, c3, c4⟩ := r_drop_loop (n := B.length - 1) hb (by omega) FU p (sI M 1 b (nI (B.length - 1))) (by omega) (by omega) (by rw [sI1, if_pos ⟨rfl, rfl⟩])
  refine ⟨M', e, sI1_RO.tr o, by rw [delL_len hp]; omega, by rw [s1, sI1, if_pos ⟨rfl, rfl⟩, delL_len hp], fun k hk => ?_⟩
  rw [delL_len hp] at hk
  rw [c2, c3, c4, delL_bk hp, sI2]
  simp only [sI1]
  rw [if_neg (show ¬ (3 = 1 ∧ 64 * b + k + 1 = b) by omega), if_neg (show ¬ (3 = 1 ∧ 64 * b + k = b) by omega), if_neg (show ¬ (4 = 1 ∧ 64 * b + k + 1 = b) by omega), if_neg (show ¬ (4 = 1 ∧ 64 * b + k = b) by omega)]
  by_cases k1 : k < p
  · have z : ¬ (64 * b + p ≤ 64 * b + k ∧ 64 * b + k < 64 * b + (B.length - 1)) := by omega
    rw [if_neg z, if_neg z, if_neg z, if_pos k1]
    exact h3 k (by omega)
  · have z : 64 * b + p ≤ 64 * b + k ∧ 64 * b + k < 64 * b + (B.length - 1) := by omega
    rw [if_pos z, if_pos z, if_pos z, if_neg k1]
    exact h3 (k + 1) (by omega)
theorem r_copy_loop {a b n : Nat} (ha : a < 6) (hb : b < 6) (hn : n ≤ 64) : ∀ f i (M : gMem), i ≤ n → n - i < f → M.1 1 a = nI n → M.1 1 b = nI n → ∃ M', mX8_copy_30 f M (nI a) (nI b) (nI i) = some (nI n, M') ∧ RO b M M' ∧ M'.1 1 b = nI n ∧ (∀ k, k < n → M'.2 2 (64 * b + k) = if i ≤ k then M.2 2 (64 * a + k) else M.2 2 (64 * b + k)) ∧ (∀ k, k < n → M'.1 3 (64 * b + k) = if i ≤ k then M.1 3 (64 * a + k) else M.1 3 (64 * b + k)) ∧ (∀ k, k < n → M'.1 4 (64 * b + k) = if i ≤ k then M.1 4 (64 * a + k) else M.1 4 (64 * b + k)) := by
  intro f
  induction f with
  | zero => intro i M _ h; omega
  | succ f ih =>
    intro i M hi hf h1 h2
    rw [mX8_copy_30, ckI (n := 6) ha (by omega), nI_cl (n := a) (by omega), h1]
    by_cases he : i = n
    · subst he
      rw [if_pos (nI_le (Nat.le_refl _) (by omega)), ckI (n := 6) hb (by omega), nI_cl (by omega), h2]
      refine ⟨M, rfl, RO.rf, h2, fun k hk => ?_, fun k hk => ?_, fun k hk => ?_⟩ <;> rw [if_neg (by omega)]
    · rw [if_neg (nI_ge (by omega) (by omega)), ix64, ix64, ckJ ha (by omega), ckJ hb (by omega), nmd, ckJ ha (by omega), ckJ hb (by omega), nmd, ckJ ha (by omega), ckJ hb (by omega), nmd, nmd, nI_cl (by omega), nI_cl (by omega), nI_1]
      have e4 : ∀ v w, (sI (sJ M 2 (64 * b + i) v) 3 (64 * b + i) w).1 4 (64 * a + i) = M.1 4 (64 * a + i) := fun v w => by rw [sI1, if_neg (by omega), sJ1]
      rw [e4, sJ1]
      obtain ⟨M', e, o, s1, c2, c3, c4⟩ := ih (i + 1) (wrR M (64 * b + i) (M.2 2 (64 * a + i)) (M.1 3 (64 * a + i)) (M.1 4 (64 * a + i))) (by omega) (by omega) (by rw [wrR_o1 1 (by omega) (by omega), h1]) (by rw [wrR_o1 1 (by omega) (by omega), h2])
      refine ⟨M', e, (wrR_RO (by omega)).tr o, s1, fun k hk => ?_, fun k hk => ?_, fun k hk => ?_⟩
      · rw [c2 k hk, wrR_2, wrR_2]
        repeat' split
        all_goals first | rfl | (exfalso; omega) | exact congrArg (M.2 2) (by omega)
      · rw [c3 k hk, wrR_3, wrR_3]
        repeat' split
        all_goals first | rfl | (exfalso; omega) | exact congrArg (M.1 3) (by omega)
      · rw [c4 k hk, wrR_4, wrR_4]
        repeat' split
        all_goals first | rfl | (exfalso; omega) | exact congrArg (M.1 4) (by omega)
theorem r_copy_in {M : gMem} {a b : Nat} {A B : List L3} (ha : a < 6) (hb : b < 6) (hA : RB M a A) (hB : RB M b B) : ∃ M', mX8_copy_30 FU (sI M 1 b (M.1 1 a)) (nI a) (nI b) 0 = some (nI A.length, M') ∧ RO b M M' ∧ RB M' b A := by
  obtain ⟨h1, h2, h3⟩ := hA
  have hf := FU_big
  rw [h2]
  obtain ⟨M', e, o, s1, c2, c3, c4⟩ := r_copy_loop (a := a) (b := b) (n := A.length) ha hb h1 FU 0 (sI M 1 b (nI A.length)) (by omega) (by omega) (by rw [sI1]; split <;> first | rfl | exact h2) (by rw [sI1, if_pos ⟨rfl, rfl⟩])
  refine ⟨M', e, sI1_RO.tr o, h1, s1, fun k hk => ?_⟩
  rw [c2 k hk, c3 k hk, c4 k hk, if_pos (by omega), if_pos (by omega), if_pos (by omega), sI2, sI1, sI1, if_neg (by omega), if_neg (by omega)]
  exact h3 k hk
theorem pre_mono {x m n : Nat} (h : m ≤ n) (hn : n ≤ 32) : x / 2 ^ (32 - m) * 2 ^ (32 - m) ≤ x / 2 ^ (32 - n) * 2 ^ (32 - n) := by
  have e : 2 ^ (32 - m) = 2 ^ (n - m) * 2 ^ (32 - n) := by rw [← Nat.pow_add]; congr 1; omega
  have h1 : x / 2 ^ (32 - m) * 2 ^ (n - m) ≤ x / 2 ^ (32 - n) := by
    rw [Nat.le_div_iff_mul_le (pw_pos _), Nat.mul_assoc, ← e]
    exact Nat.div_mul_le_self _ _
  rw [e, ← Nat.mul_assoc, ← e]
  exact Nat.mul_le_mul_right _ h1
theorem mt_iff {q : L3} {x : Nat} : mt q x = true ↔ x / 2 ^ (32 - q.2.1) * 2 ^ (32 - q.2.1) = q.1 := by unfold mt; exact decide_eq_true_iff
theorem mt_div {q : L3} {x : Nat} (h : wfL q) : mt q x = true ↔ x / 2 ^ (32 - q.2.1) = q.1 / 2 ^ (32 - q.2.1) := by
  rw [mt_iff]
  have h0 := pw_pos (32 - q.2.1)
  have hd : q.1 / 2 ^ (32 - q.2.1) * 2 ^ (32 - q.2.1) = q.1 := Nat.div_mul_cancel (Nat.dvd_of_mod_eq_zero h.2.2.2)
  constructor
  · intro e
    rw [← e, Nat.mul_div_cancel _ h0]
  · intro e
    rw [e, hd]
theorem mt_lt {B : List L3} (hw : wfB B) {i j x : Nat} (hij : i < j) (hj : j < B.length) (h1 : mt (bk B i) x = true) (h2 : mt (bk B j) x = true) : (bk B i).2.1 < (bk B j).2.1 := by
  rw [mt_iff] at h1 h2
  have hl := hw.2 i j hij hj
  by_cases h : (bk B i).2.1 < (bk B j).2.1
  · exact h
  · have := pre_mono (x := x) (m := (bk B j).2.1) (n := (bk B i).2.1) (by omega) (hw.1 i (by omega)).2.1
    rw [h1, h2] at this
    unfold ltL at hl
    omega
theorem holder_succ {B : List L3} {i x : Nat} : holder B (i + 1) x = if mt (bk B i) x = true then some i else holder B i x := rfl
theorem r_best_loop {M : gMem} {b : Nat} {B : List L3} (hb : b < 6) (h : RB M b B) (hw : wfB B) {x : Nat} (hx : x < 4294967296) : ∀ f i, i ≤ B.length → B.length - i < f → mX8_best_6 f M (nI b) (lN x) (oI (holder B i x)) (nI i) = some (oI (holder B B.length x)) := by
  obtain ⟨h1, h2, h3⟩ := h
  intro f
  induction f with
  | zero => intro i _ h; omega
  | succ f ih =>
    intro i hi hf
    rw [mX8_best_6, ckI (n := 6) hb (by omega), nI_cl (n := b) (by omega), h2]
    by_cases hl : i < B.length
    · obtain ⟨e1, e2, e3⟩ := h3 i hl
      have w := hw.1 i hl
      rw [if_neg (nI_ge hl (by omega)), ix64, ckJ hb (by omega), ckJ hb (by omega), nI_cl (by omega), e1, e2, r_begins hx w.1 w.2.1, Option.bind_some]
      have nx := ih (i + 1) (by omega) (by omega)
      rw [holder_succ] at nx
      by_cases hm : mt (bk B i) x = true
      · rw [if_pos hm] at nx
        rw [if_pos ((mt_div w).mp hm), if_neg (by decide)]
        cases hh : holder B i x with
        | none => rw [oI, if_pos rfl, nmd, nI_1]; exact nx
        | some k =>
          have hk := lastP_some.mp hh
          rw [oI, if_neg (nI_m1 (by omega)), ckJ hb (by omega), ix64, ckJ hb (by omega), nI_cl (by omega), (h3 k (by omega)).2.1, if_neg (nI_ge (mt_lt hw hk.1 hl hk.2.1 hm) (by have := w.2.1; omega)), nmd, nI_1]
          exact nx
      · rw [if_neg hm] at nx
        rw [if_neg (fun e => hm ((mt_div w).mpr e)), if_pos rfl, nmd, nI_1]
        exact nx
    · rw [if_pos (nI_le (by omega) (by omega)), show i = B.length by omega]
theorem r_best {M : gMem} {b : Nat} {B : List L3} (hb : b < 6) (h : RB M b B) (hw : wfB B) {x : Nat} (hx : x < 4294967296) : mX8_best M (nI b) (lN x) = some (oI (holder B B.length x)) := by
  have hf := FU_big
  have h1 := h.1
  exact r_best_loop hb h hw hx FU 0 (by omega) (by omega)
theorem r_leads {M : gMem} {b : Nat} {B : List L3} (hb : b < 6) (h : RB M b B) (hw : wfB B) {x : Nat} (hx : x < 4294967296) : mX8_leads M (nI b) (lN x) = some (nI (leads B x)) := by
  have h1 := h.1
  rw [mX8_leads, r_best hb h hw hx, Option.bind_some]
  unfold leads
  cases hh : holder B B.length x with
  | none => rw [oI, if_pos rfl]; rfl
  | some k =>
    have hk := holder_lt hh
    rw [oI, if_neg (nI_m1 (by omega)), ix64, ckJ hb (by omega), nI_cl (by omega), (h.2.2 k hk).2.2]
    rfl
theorem leads_le {B : List L3} (hw : wfB B) (x : Nat) : leads B x ≤ 16 := by
  unfold leads
  cases hh : holder B B.length x with
  | none => exact Nat.le_refl _
  | some k => exact (hw.1 k (holder_lt hh)).2.2.1
