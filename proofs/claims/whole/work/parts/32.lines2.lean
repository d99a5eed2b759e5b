/-! Lines: what changes a row -/
def v3 (x y z : Int32) (c : Nat) : Int32 := if c = 1 then x else if c = 2 then y else z
def wr3 (M : gMem) (l i : Nat) (x y z : Int32) : gMem := sI (sI (sI M (l + 1) i x) (l + 2) i y) (l + 3) i z
theorem wr3_at {M : gMem} {l i : Nat} {x y z : Int32} {c : Nat} (h1 : 1 ≤ c) (h3 : c ≤ 3) (k : Nat) : (wr3 M l i x y z).1 (l + c) k = if k = i then v3 x y z c else M.1 (l + c) k := by
  unfold wr3
  rw [sI1, sI1, sI1]
  rcases (show c = 1 ∨ c = 2 ∨ c = 3 by omega) with rfl | rfl | rfl <;> by_cases hk : k = i <;> simp [hk, v3]
theorem wr3_l {M : gMem} {l i : Nat} {x y z : Int32} (k : Nat) : (wr3 M l i x y z).1 l k = M.1 l k := by
  unfold wr3
  rw [sI1, sI1, sI1, if_neg (by omega), if_neg (by omega), if_neg (by omega)]
theorem wr3_Off {M : gMem} {l i : Nat} {x y z : Int32} : Off l 4 M (wr3 M l i x y z) := ((sI_Off (by omega)).tr (sI_Off (by omega))).tr (sI_Off (by omega))
theorem m_write {M : gMem} {l i : Nat} {x y z : Int32} (hi : i < lnOf l) (hl : lnOf l ≤ 1000) : mX2_write M l (nI i) x y z = some (wr3 M l i x y z) := by
  rw [mX2_write, ckI hi (by omega), nmd, ckI hi (by omega), nmd, ckI hi (by omega), nmd, nI_cl (by omega)]; rfl
theorem m_insert_loop {l p : Nat} {x y z : Int32} (hl : lnOf l ≤ 1000) : ∀ f i (M : gMem), p ≤ i → i < lnOf l → i - p < f → ∃ M', mX2_insert_31 f M l (nI p) x y z (nI i) = some (1, M') ∧ Off l 4 M M' ∧ M'.1 l 3 = M.1 l 3 ∧ M'.1 l 4 = M.1 l 4 + 1 ∧ (∀ c, 1 ≤ c → c ≤ 3 → ∀ k, M'.1 (l + c) k = if k < p then M.1 (l + c) k else if k = p then v3 x y z c else if k ≤ i then M.1 (l + c) (k - 1) else M.1 (l + c) k) := by
  intro f
  induction f with
  | zero => intro i M _ _ h; omega
  | succ f ih =>
    intro i M hp hi hf
    rw [mX2_insert_31]
    by_cases he : i = p
    · subst he
      rw [if_pos (nI_le (Nat.le_refl _) (by omega)), m_write hi hl, Option.bind_some, nmd]
      refine ⟨_, rfl, wr3_Off.tr (sI_Off (by omega)), ?_, ?_, ?_⟩
      · rw [sI1, if_neg (by omega), wr3_l]
      · rw [sI1, if_pos ⟨rfl, rfl⟩, wr3_l]
      · intro c c1 c3 k
        rw [sI1, if_neg (by omega), wr3_at c1 c3]
        by_cases hk : k = i
        · rw [if_pos hk, if_neg (by omega), if_pos hk]
        · rw [if_neg hk]
          by_cases h2 : k < i
          · rw [if_pos h2]
          · rw [if_neg h2, if_neg hk, if_neg (by omega)]
    · rw [if_neg (nI_ge (by omega) (by omega)), show nI i - (1 : Int32) = nI (i - 1) from pk_sub (b := 1) (by omega), ckI (by omega) (by omega), ckI (by omega) (by omega), ckI (by omega) (by omega), nI_cl (by omega), m_write hi hl, Option.bind_some, nmd, i32_m1, show nI i - (1 : Int32) = nI (i - 1) from pk_sub (b := 1) (by omega)]
      obtain ⟨M', e, o, s3, s4, cl⟩ := ih (i - 1) (wr3 M l i (M.1 (l + 1) (i - 1)) (M.1 (l + 2) (i - 1)) (M.1 (l + 3) (i - 1))) (by omega) (by omega) (by omega)
      refine ⟨M', e, wr3_Off.tr o, by rw [s3, wr3_l], by rw [s4, wr3_l], fun c c1 c3 k => ?_⟩
      rw [cl c c1 c3 k, wr3_at c1 c3, wr3_at c1 c3]
      have hv : v3 (M.1 (l + 1) (i - 1)) (M.1 (l + 2) (i - 1)) (M.1 (l + 3) (i - 1)) c = M.1 (l + c) (i - 1) := by
        rcases (show c = 1 ∨ c = 2 ∨ c = 3 by omega) with rfl | rfl | rfl <;> rfl
      rw [hv]
      repeat' split
      all_goals first | rfl | (exfalso; omega) | (subst_vars; rfl) | (congr 1; omega)
def insL (B : List L3) (p : Nat) (q : L3) : List L3 := B.take p ++ q :: B.drop p
theorem insL_len {B : List L3} {p : Nat} {q : L3} (h : p ≤ B.length) : (insL B p q).length = B.length + 1 := by
  unfold insL
  rw [List.length_append, List.length_cons, List.length_take, List.length_drop]
  omega
theorem insL_bk {B : List L3} {p : Nat} {q : L3} (h : p ≤ B.length) (k : Nat) : bk (insL B p q) k = if k < p then bk B k else if k = p then q else bk B (k - 1) := by
  unfold insL bk
  rw [List.getD_eq_getElem?_getD, List.getElem?_append, List.length_take, Nat.min_eq_left h]
  by_cases k1 : k < p
  · rw [if_pos k1, if_pos k1, List.getElem?_take, if_pos k1, List.getD_eq_getElem?_getD]
  · rw [if_neg k1, if_neg k1]
    by_cases k2 : k = p
    · rw [if_pos k2, k2, Nat.sub_self]; rfl
    · rw [if_neg k2, show k - p = (k - p - 1) + 1 by omega, List.getElem?_cons_succ, List.getElem?_drop, show p + (k - p - 1) = k - 1 by omega, List.getD_eq_getElem?_getD]
theorem m_insert {M : gMem} {l : Nat} {B : List L3} (h : LB M l B) {p a n g : Nat} (hp : p ≤ B.length) (hr : B.length < lnOf l) : ∃ M', mX2_insert M l (nI p) (nI a) (nI n) (nI g) = some (1, M') ∧ Off l 4 M M' ∧ LB M' l (insL B p (a, n, g)) := by
  obtain ⟨h1, h2, h3, h4, h5⟩ := h
  have hb := FU_big
  rw [mX2_insert, h3, h4, if_neg (nI_ge hr (by omega)), if_neg (nI_pos (by omega)), if_pos (nI_le hp (by omega)), nmd]
  obtain ⟨M', e, o, s3, s4, cl⟩ := m_insert_loop (l := l) (p := p) (x := nI a) (y := nI n) (z := nI g) h2 FU B.length M hp hr (by omega)
  refine ⟨M', e, o, by rw [insL_len hp]; omega, h2, ?_, by rw [s3, h4], ?_⟩
  · rw [s4, h3, insL_len hp, nI_1]
  · intro k hk
    rw [insL_len hp] at hk
    rw [cl 1 (by omega) (by omega), cl 2 (by omega) (by omega), cl 3 (by omega) (by omega), insL_bk hp]
    by_cases k1 : k < p
    · rw [if_pos k1, if_pos k1, if_pos k1, if_pos k1]
      exact h5 k (by omega)
    · rw [if_neg k1, if_neg k1, if_neg k1, if_neg k1]
      by_cases k2 : k = p
      · rw [if_pos k2, if_pos k2, if_pos k2, if_pos k2]
        exact ⟨rfl, rfl, rfl⟩
      · rw [if_neg k2, if_neg k2, if_neg k2, if_neg k2, if_pos (by omega), if_pos (by omega), if_pos (by omega)]
        exact h5 (k - 1) (by omega)
theorem m_insert_full {M : gMem} {l : Nat} {B : List L3} (h : LB M l B) {x : Int32} {a n g : Int32} (hr : B.length = lnOf l) : mX2_insert M l x a n g = some (0, M) := by
  obtain ⟨h1, h2, h3, h4, h5⟩ := h
  rw [mX2_insert, h3, h4, if_pos (by rw [hr]; exact nI_le (Nat.le_refl _) (by omega))]
theorem m_remove_loop {l n : Nat} (hl : lnOf l ≤ 1000) (hn : n < lnOf l) : ∀ f i (M : gMem), i ≤ n → n - i < f → M.1 l 4 = nI n → ∃ M', mX2_removeAt_25 f M l (nI i) = some M' ∧ Off l 4 M M' ∧ M'.1 l 3 = M.1 l 3 ∧ M'.1 l 4 = M.1 l 4 ∧ (∀ c, 1 ≤ c → c ≤ 3 → ∀ k, M'.1 (l + c) k = if i ≤ k ∧ k < n then M.1 (l + c) (k + 1) else M.1 (l + c) k) := by
  intro f
  induction f with
  | zero => intro i M _ h; omega
  | succ f ih =>
    intro i M hi hf h4
    rw [mX2_removeAt_25, h4]
    by_cases he : i = n
    · subst he
      rw [if_pos (nI_le (Nat.le_refl _) (by omega))]
      refine ⟨M, rfl, Off.rf, rfl, h4, fun c c1 c3 k => ?_⟩
      rw [if_neg (by omega)]
    · rw [if_neg (nI_ge (by omega) (by omega)), nI_1, ckI (by omega) (by omega), ckI (by omega) (by omega), ckI (by omega) (by omega), nI_cl (by omega), m_write (by omega) hl, Option.bind_some, nmd]
      obtain ⟨M', e, o, s3, s4, cl⟩ := ih (i + 1) (wr3 M l i (M.1 (l + 1) (i + 1)) (M.1 (l + 2) (i + 1)) (M.1 (l + 3) (i + 1))) (by omega) (by omega) (by rw [wr3_l, h4])
      refine ⟨M', e, wr3_Off.tr o, by rw [s3, wr3_l], by rw [s4, wr3_l, h4], fun c c1 c3 k => ?_⟩
      rw [cl c c1 c3 k, wr3_at c1 c3, wr3_at c1 c3]
      have hv : v3 (M.1 (l + 1) (i + 1)) (M.1 (l + 2) (i + 1)) (M.1 (l + 3) (i + 1)) c = M.1 (l + c) (i + 1) := by
        rcases (show c = 1 ∨ c = 2 ∨ c = 3 by omega) with rfl | rfl | rfl <;> rfl
      rw [hv]
      repeat' split
      all_goals first | rfl | (exfalso; omega) | (subst_vars; rfl) | (congr 1; omega)
def delL (B : List L3) (p : Nat) : List L3 := B.take p ++ B.drop (p + 1)
theorem delL_len {B : List L3} {p : Nat} (h : p < B.length) : (delL B p).length = B.length - 1 := by
  unfold delL
  rw [List.length_append, List.length_take, List.length_drop]
  omega
theorem delL_bk {B : List L3} {p : Nat} (h : p < B.length) (k : Nat) : bk (delL B p) k = if k < p then bk B k else bk B (k + 1) := by
  unfold delL bk
  rw [List.getD_eq_getElem?_getD, List.getElem?_append, List.length_take, Nat.min_eq_left (by omega)]
  by_cases k1 : k < p
  · rw [if_pos k1, if_pos k1, List.getElem?_take, if_pos k1, List.getD_eq_getElem?_getD]
  · rw [if_neg k1, if_neg k1, List.getElem?_drop, show p + 1 + (k - p) = k + 1 by omega, List.getD_eq_getElem?_getD]
theorem m_remove {M : gMem} {l : Nat} {B : List L3} (h : LB M l B) {p : Nat} (hp : p < B.length) : ∃ M', mX2_removeAt M l (nI p) = some M' ∧ Off l 4 M M' ∧ LB M' l (delL B p) := by
  obtain ⟨h1, h2, h3, h4, h5⟩ := h
  have hb := FU_big
  rw [mX2_removeAt, h3, if_neg (nI_pos (by omega)), if_pos (nI_lt hp (by omega)), nmd, show nI B.length - (1 : Int32) = nI (B.length - 1) from pk_sub (b := 1) (by omega)]
  obtain ⟨M', e, o, s3, s4, cl⟩ := m_remove_loop (l := l) (n := B.length - 1) h2 (by omega) FU p (sI M l 4 (nI (B.length - 1))) (by omega) (by omega) (by rw [sI1, if_pos ⟨rfl, rfl⟩])
  refine ⟨M', e, (sI_Off (by omega)).tr o, by rw [delL_len hp]; omega, h2, ?_, ?_, ?_⟩
  · rw [s4, sI1, if_pos ⟨rfl, rfl⟩, delL_len hp]
  · rw [s3, sI1, if_neg (by omega), h4]
  · intro k hk
    rw [delL_len hp] at hk
    rw [cl 1 (by omega) (by omega), cl 2 (by omega) (by omega), cl 3 (by omega) (by omega), delL_bk hp]
    simp only [sI1]
    rw [if_neg (show ¬ (l + 1 = l ∧ k + 1 = 4) by omega), if_neg (show ¬ (l + 1 = l ∧ k = 4) by omega), if_neg (show ¬ (l + 2 = l ∧ k + 1 = 4) by omega), if_neg (show ¬ (l + 2 = l ∧ k = 4) by omega), if_neg (show ¬ (l + 3 = l ∧ k + 1 = 4) by omega), if_neg (show ¬ (l + 3 = l ∧ k = 4) by omega)]
    by_cases k1 : k < p
    · have c1 : ¬ (p ≤ k ∧ k < B.length - 1) := by omega
      rw [if_neg c1, if_neg c1, if_neg c1, if_pos k1]
      exact h5 k (by omega)
    · have c1 : p ≤ k ∧ k < B.length - 1 := by omega
      rw [if_pos c1, if_pos c1, if_pos c1, if_neg k1]
      exact h5 (k + 1) (by omega)
theorem m_become_loop {l l2 n : Nat} (hl : lnOf l ≤ 1000) (hl2 : lnOf l2 ≤ 1000) (hn : n ≤ lnOf l) (hn2 : n ≤ lnOf l2) (hd : l2 = l ∨ l2 + 4 ≤ l ∨ l + 4 ≤ l2) : ∀ f i (M : gMem), i ≤ n → n - i < f → ∃ M', mX2_become_14 f M l l2 (nI n) (nI i) = some M' ∧ Off l 4 M M' ∧ M'.1 l 3 = M.1 l 3 ∧ M'.1 l 4 = nI n ∧ (∀ c, 1 ≤ c → c ≤ 3 → ∀ k, M'.1 (l + c) k = if i ≤ k ∧ k < n then M.1 (l2 + c) k else M.1 (l + c) k) := by
  intro f
  induction f with
  | zero => intro i M _ h; omega
  | succ f ih =>
    intro i M hi hf
    rw [mX2_become_14]
    by_cases he : i = n
    · subst he
      rw [if_pos (nI_le (Nat.le_refl _) (by omega)), nmd]
      refine ⟨_, rfl, sI_Off (by omega), by rw [sI1, if_neg (by omega)], by rw [sI1, if_pos ⟨rfl, rfl⟩], fun c c1 c3 k => ?_⟩
      rw [sI1, if_neg (by omega), if_neg (by omega)]
    · rw [if_neg (nI_ge (by omega) (by omega)), ckI (by omega) (by omega), ckI (by omega) (by omega), ckI (by omega) (by omega), nI_cl (by omega), m_write (by omega) hl, Option.bind_some, nmd, nI_1]
      obtain ⟨M', e, o, s3, s4, cl⟩ := ih (i + 1) (wr3 M l i (M.1 (l2 + 1) i) (M.1 (l2 + 2) i) (M.1 (l2 + 3) i)) (by omega) (by omega)
      refine ⟨M', e, wr3_Off.tr o, by rw [s3, wr3_l], s4, fun c c1 c3 k => ?_⟩
      have hv : v3 (M.1 (l2 + 1) i) (M.1 (l2 + 2) i) (M.1 (l2 + 3) i) c = M.1 (l2 + c) i := by
        rcases (show c = 1 ∨ c = 2 ∨ c = 3 by omega) with rfl | rfl | rfl <;> rfl
      have hw : ∀ k, k ≠ i → (wr3 M l i (M.1 (l2 + 1) i) (M.1 (l2 + 2) i) (M.1 (l2 + 3) i)).1 (l2 + c) k = M.1 (l2 + c) k := by
        intro k hk
        rcases hd with rfl | hd
        · rw [wr3_at c1 c3, if_neg hk]
        · rw [(wr3_Off (l2 + c) (by omega)).1]
      rw [cl c c1 c3 k, wr3_at c1 c3, hv]
      by_cases k1 : i + 1 ≤ k ∧ k < n
      · rw [if_pos k1, if_pos (by omega), hw k (by omega)]
      · rw [if_neg k1]
        by_cases k2 : k = i
        · rw [if_pos k2, if_pos (by omega), k2]
        · rw [if_neg k2, if_neg (by omega)]
theorem m_become {M : gMem} {l l2 : Nat} {B B2 : List L3} (h : LB M l B) (h2 : LB M l2 B2) (hn : B2.length ≤ lnOf l) (hd : l2 = l ∨ l2 + 4 ≤ l ∨ l + 4 ≤ l2) : ∃ M', mX2_become M l l2 = some M' ∧ Off l 4 M M' ∧ LB M' l B2 := by
  obtain ⟨a1, a2, a3, a4, a5⟩ := h
  obtain ⟨b1, b2, b3, b4, b5⟩ := h2
  have hb := FU_big
  have e : (if M.1 l 3 < M.1 l2 4 then M.1 l 3 else M.1 l2 4) = nI B2.length := by
    rw [a4, b3, nI_min (by omega) (by omega), Nat.min_eq_right hn]
  rw [mX2_become, e, nmd]
  obtain ⟨M', e1, o, s3, s4, cl⟩ := m_become_loop (l := l) (l2 := l2) (n := B2.length) a2 b2 hn b1 hd FU 0 M (by omega) (by omega)
  refine ⟨M', e1, o, hn, a2, s4, by rw [s3, a4], fun k hk => ?_⟩
  rw [cl 1 (by omega) (by omega), cl 2 (by omega) (by omega), cl 3 (by omega) (by omega), if_pos ⟨by omega, hk⟩, if_pos ⟨by omega, hk⟩, if_pos ⟨by omega, hk⟩]
  exact b5 k hk
theorem m_clear {M : gMem} {l : Nat} {B : List L3} (h : LB M l B) : ∃ M', mX2_clear M l = some M' ∧ Off l 4 M M' ∧ LB M' l [] := by
  obtain ⟨h1, h2, h3, h4, h5⟩ := h
  rw [mX2_clear, nmd]
  refine ⟨_, rfl, sI_Off (by omega), Nat.zero_le _, h2, by rw [sI1, if_pos ⟨rfl, rfl⟩]; rfl, by rw [sI1, if_neg (by omega)]; exact h4, fun i hi => ?_⟩
  exact absurd hi (Nat.not_lt_zero i)
theorem bk_app {B : List L3} {q : L3} (k : Nat) (h : k ≤ B.length) : bk (B ++ [q]) k = if k < B.length then bk B k else q := by
  unfold bk
  rw [List.getD_eq_getElem?_getD, List.getElem?_append]
  by_cases k1 : k < B.length
  · rw [if_pos k1, if_pos k1, List.getD_eq_getElem?_getD]
  · rw [if_neg k1, if_neg k1, show k - B.length = 0 by omega]; rfl
theorem m_append {M : gMem} {l : Nat} {B : List L3} (h : LB M l B) {a n g : Nat} : ∃ M', mX2_append M l (nI a) (nI n) (nI g) = some M' ∧ Off l 4 M M' ∧ LB M' l (if B.length < lnOf l then B ++ [(a, n, g)] else B) := by
  obtain ⟨h1, h2, h3, h4, h5⟩ := h
  rw [mX2_append, h3, h4]
  by_cases hr : B.length < lnOf l
  · rw [if_neg (nI_ge hr (by omega)), ckI hr (by omega), nmd, nI_cl (by omega)]
    have e1 : ∀ v, (sI M (l + 1) B.length v).1 l 4 = nI B.length := fun v => by rw [sI1, if_neg (by omega), h3]
    rw [e1, ckI hr (by omega), nmd, nI_cl (by omega)]
    have e2 : ∀ v w, (sI (sI M (l + 1) B.length v) (l + 2) B.length w).1 l 4 = nI B.length := fun v w => by rw [sI1, if_neg (by omega), e1]
    rw [e2, ckI hr (by omega), nmd, nI_cl (by omega), nmd]
    have e3 : ∀ v w z, (sI (sI (sI M (l + 1) B.length v) (l + 2) B.length w) (l + 3) B.length z).1 l 4 = nI B.length := fun v w z => by rw [sI1, if_neg (by omega), e2]
    rw [e3, nI_1, if_pos hr]
    have hw : sI (sI (sI M (l + 1) B.length (nI a)) (l + 2) B.length (nI n)) (l + 3) B.length (nI g) = wr3 M l B.length (nI a) (nI n) (nI g) := rfl
    rw [hw]
    refine ⟨_, rfl, wr3_Off.tr (sI_Off (by omega)), by rw [List.length_append]; exact hr, h2, by rw [sI1, if_pos ⟨rfl, rfl⟩, List.length_append]; rfl, by rw [sI1, if_neg (by omega), wr3_l, h4], fun k hk => ?_⟩
    rw [List.length_append, List.length_singleton] at hk
    rw [sI1, sI1, sI1, if_neg (by omega), if_neg (by omega), if_neg (by omega), wr3_at (by omega) (by omega), wr3_at (by omega) (by omega), wr3_at (by omega) (by omega), bk_app k (by omega)]
    by_cases k1 : k < B.length
    · have c1 : ¬ k = B.length := by omega
      rw [if_neg c1, if_neg c1, if_neg c1, if_pos k1]
      exact h5 k k1
    · have c1 : k = B.length := by omega
      rw [if_pos c1, if_pos c1, if_pos c1, if_neg k1]
      exact ⟨rfl, rfl, rfl⟩
  · rw [if_pos (nI_le (by omega) (by omega)), if_neg hr]
    exact ⟨M, rfl, Off.rf, h1, h2, h3, h4, h5⟩
