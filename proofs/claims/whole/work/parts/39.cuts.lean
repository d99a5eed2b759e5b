/-! the reference's SPANS -/
def RK (M M' : gMem) : Prop := (∀ k, 1 ≤ k → k ≤ 4 → M'.1 k = M.1 k ∧ M'.2 k = M.2 k) ∧ SR M M'
theorem RK.rf {M : gMem} : RK M M := ⟨fun _ _ _ => ⟨rfl, rfl⟩, SR.rf⟩
theorem RK.tr {M M1 M2 : gMem} (h : RK M M1) (g : RK M1 M2) : RK M M2 := ⟨fun k a b => ⟨(g.1 k a b).1.trans (h.1 k a b).1, (g.1 k a b).2.trans (h.1 k a b).2⟩, h.2.tr g.2⟩
theorem RB.rk {M M' : gMem} {b : Nat} {B : List L3} (h : RB M b B) (k : RK M M') : RB M' b B := by
  obtain ⟨h1, h2, h3⟩ := h
  refine ⟨h1, by rw [(k.1 1 (by omega) (by omega)).1]; exact h2, fun i hi => ?_⟩
  rw [(k.1 2 (by omega) (by omega)).2, (k.1 3 (by omega) (by omega)).1, (k.1 4 (by omega) (by omega)).1]
  exact h3 i hi
theorem sJ_RK {M : gMem} {k j : Nat} {v : Int64} (h : 5 ≤ k) (h2 : k < 17 ∨ 25 < k) : RK M (sJ M k j v) := ⟨fun x a b => sJ_off x (by omega), fun x a b => sJ_off x (by omega), rfl, rfl, rfl, rfl⟩
theorem sI_RK {M : gMem} {k j : Nat} {v : Int32} (h : 5 ≤ k) (h2 : k < 17 ∨ 25 < k) : RK M (sI M k j v) := ⟨fun x a b => sI_off x (by omega), fun x a b => sI_off x (by omega), by rw [sI1, if_neg (by omega)], by rw [sI1, if_neg (by omega)], by rw [sI1, if_neg (by omega)], by rw [sI1, if_neg (by omega)]⟩
theorem sI0_RK {M : gMem} {j : Nat} {v : Int32} (h : j ≠ 18 ∧ j ≠ 21 ∧ j ≠ 22 ∧ j ≠ 27) : RK M (sI M 0 j v) := ⟨fun x a b => sI_off x (by omega), fun x a b => sI_off x (by omega), by rw [sI1, if_neg (by omega)], by rw [sI1, if_neg (by omega)], by rw [sI1, if_neg (by omega)], by rw [sI1, if_neg (by omega)]⟩
/-- the cuts so far -/
def CT (M : gMem) (n : Nat) (f : Nat → Nat) : Prop := M.1 0 4 = nI n ∧ (∀ i, i < n → M.2 5 i = lN (f i)) ∧ (∀ i j, i < j → j < n → f i < f j) ∧ ∀ i, i < n → f i < 4294967296
theorem r_cuts_61 {x p n : Nat} (hn : n < 600) : ∀ fu k (M : gMem), p ≤ k → k ≤ n → k - p < fu → M.1 0 4 = nI n → ∃ M', mX8_cuts_61 fu M (lN x) (nI p) (nI k) = some M' ∧ RK M M' ∧ M'.1 0 4 = nI (n + 1) ∧ M'.1 6 = M.1 6 ∧ ∀ j, M'.2 5 j = if j < p then M.2 5 j else if j = p then lN x else if j ≤ k then M.2 5 (j - 1) else M.2 5 j := by
  intro fu
  induction fu with
  | zero => intro k M _ _ h; omega
  | succ fu ih =>
    intro k M hp hk hf h4
    rw [mX8_cuts_61]
    by_cases e : k = p
    · subst e
      rw [if_pos (nI_le (Nat.le_refl _) (by omega)), ckI (by omega) (by omega), nI_cl (by omega), nmd, nmd, sJ1, h4, nI_1]
      refine ⟨_, rfl, (sJ_RK (by omega) (by omega)).tr (sI0_RK (by omega)), by rw [sI1, if_pos ⟨rfl, rfl⟩], (sI_off _ (by omega)).1, fun j => ?_⟩
      rw [sI2, sJ2]
      repeat' split
      all_goals first | rfl | (exfalso; omega)
    · rw [if_neg (nI_ge (by omega) (by omega)), show nI k - (1 : Int32) = nI (k - 1) from pk_sub (b := 1) (by omega), ckI (by omega) (by omega), ckI (by omega) (by omega), nI_cl (by omega), nI_cl (by omega), nmd, nmd, i32_m1, show nI k - (1 : Int32) = nI (k - 1) from pk_sub (b := 1) (by omega)]
      obtain ⟨M', e1, r, s4, s6, c⟩ := ih (k - 1) (sJ M 5 k (M.2 5 (k - 1))) (by omega) (by omega) (by omega) (by rw [sJ1]; exact h4)
      refine ⟨M', e1, (sJ_RK (by omega) (by omega)).tr r, s4, by rw [s6, sJ1], fun j => ?_⟩
      rw [c, sJ2, sJ2]
      repeat' split
      all_goals first | rfl | (exfalso; omega) | exact congrArg (M.2 5) (by omega)
theorem r_cuts_14 {M : gMem} {n : Nat} {f : Nat → Nat} (h : CT M n f) (hn : n < 600) {x : Nat} (hx : x < 4294967296) : ∀ fu i, i ≤ n → i < fu → (∀ k, i ≤ k → k < n → x < f k) → ∃ p, mX8_cuts_14 fu M (lN x) (nI i) = mX8_cuts_37 M (lN x) (nI p) ∧ p ≤ n ∧ (∀ k, k < p → f k ≤ x) ∧ ∀ k, p ≤ k → k < n → x < f k := by
  intro fu
  induction fu with
  | zero => intro i _ h; omega
  | succ fu ih =>
    intro i hi hf hk
    rw [mX8_cuts_14]
    by_cases z : i = 0
    · subst z
      rw [if_pos (by decide)]
      exact ⟨0, rfl, by omega, fun k hk => by omega, hk⟩
    · have b := h.2.2.2 (i - 1) (by omega)
      rw [if_neg (nI_nle (by omega) (by omega)), show nI i - (1 : Int32) = nI (i - 1) from pk_sub (b := 1) (by omega), ckI (by omega) (by omega), nI_cl (by omega), h.2.1 (i - 1) (by omega)]
      by_cases c : f (i - 1) ≤ x
      · rw [if_pos ((lN_le' (by omega) (by omega)).mpr c)]
        refine ⟨i, rfl, hi, fun k hk => ?_, hk⟩
        by_cases e : k = i - 1
        · rw [e]; exact c
        · have := h.2.2.1 k (i - 1) (by omega) (by omega); omega
      · rw [if_neg (fun q => c ((lN_le' (by omega) (by omega)).mp q)), nmd, i32_m1, show nI i - (1 : Int32) = nI (i - 1) from pk_sub (b := 1) (by omega)]
        refine ih (i - 1) (by omega) (by omega) (fun k k1 k2 => ?_)
        by_cases e : k = i - 1
        · rw [e]; omega
        · exact hk k (by omega) k2
theorem r_cuts {M : gMem} {n : Nat} {f : Nat → Nat} (h : CT M n f) (hn : n < 599) {x : Nat} (hx : x ≤ 4294967296) : ∃ M' n' f', mX8_cuts M (lN x) = some M' ∧ CT M' n' f' ∧ n' ≤ n + 1 ∧ RK M M' ∧ ∀ y, (∃ i, i < n' ∧ f' i = y) ↔ ((∃ i, i < n ∧ f i = y) ∨ (y = x ∧ x < 4294967296)) := by
  have hfu := FU_big
  rw [mX8_cuts]
  by_cases c : x < 4294967296
  · rw [if_pos (show lN x < 4294967296 from (lN_lt' (b := 4294967296) (by omega) (by omega)).mpr c), h.1, nmd]
    obtain ⟨p, e, p1, p2, p3⟩ := r_cuts_14 h (by omega) c FU n (Nat.le_refl _) (by omega) (fun k k1 k2 => by omega)
    rw [e, mX8_cuts_37, h.1]
    have ins : (∀ k, k < p → f k < x) → ∃ M' n' f', mX8_cuts_61 FU M (lN x) (nI p) (nI n) = some M' ∧ CT M' n' f' ∧ n' ≤ n + 1 ∧ RK M M' ∧ ∀ y, (∃ i, i < n' ∧ f' i = y) ↔ ((∃ i, i < n ∧ f i = y) ∨ (y = x ∧ x < 4294967296)) := by
      intro q
      obtain ⟨M', e1, r, s4, s6, cl⟩ := r_cuts_61 (x := x) (p := p) (n := n) (by omega) FU n M p1 (Nat.le_refl _) (by omega) h.1
      refine ⟨M', n + 1, fun j => if j < p then f j else if j = p then x else f (j - 1), e1, ⟨s4, fun i hi => ?_, fun i j i1 j1 => ?_, fun i hi => ?_⟩, by omega, r, fun y => ⟨?_, ?_⟩⟩
      · rw [cl]
        show _ = lN (if i < p then f i else if i = p then x else f (i - 1))
        by_cases i1 : i < p
        · rw [if_pos i1, if_pos i1]; exact h.2.1 i (by omega)
        · rw [if_neg i1, if_neg i1]
          by_cases i2 : i = p
          · rw [if_pos i2, if_pos i2]
          · rw [if_neg i2, if_neg i2, if_pos (by omega)]; exact h.2.1 (i - 1) (by omega)
      · show (if i < p then f i else if i = p then x else f (i - 1)) < (if j < p then f j else if j = p then x else f (j - 1))
        by_cases a1 : i < p
        · rw [if_pos a1]
          by_cases b1 : j < p
          · rw [if_pos b1]; exact h.2.2.1 i j i1 (by omega)
          · rw [if_neg b1]
            by_cases b2 : j = p
            · rw [if_pos b2]; exact q i a1
            · rw [if_neg b2]; have := q i a1; have := p3 (j - 1) (by omega) (by omega); omega
        · rw [if_neg a1, if_neg (show ¬ j < p by omega), if_neg (show ¬ j = p by omega)]
          by_cases a2 : i = p
          · rw [if_pos a2]; exact p3 (j - 1) (by omega) (by omega)
          · rw [if_neg a2]; exact h.2.2.1 (i - 1) (j - 1) (by omega) (by omega)
      · show (if i < p then f i else if i = p then x else f (i - 1)) < _
        split
        · exact h.2.2.2 i (by omega)
        · split
          · exact c
          · exact h.2.2.2 (i - 1) (by omega)
      · rintro ⟨i, hi, e⟩
        have e : (if i < p then f i else if i = p then x else f (i - 1)) = y := e
        by_cases i1 : i < p
        · rw [if_pos i1] at e; exact Or.inl ⟨i, by omega, e⟩
        · rw [if_neg i1] at e
          by_cases i2 : i = p
          · rw [if_pos i2] at e; exact Or.inr ⟨e.symm, c⟩
          · rw [if_neg i2] at e; exact Or.inl ⟨i - 1, by omega, e⟩
      · rintro (⟨i, hi, e⟩ | ⟨e, _⟩)
        · by_cases i1 : i < p
          · exact ⟨i, by omega, by show (if i < p then f i else if i = p then x else f (i - 1)) = y; rw [if_pos i1, e]⟩
          · exact ⟨i + 1, by omega, by show (if i + 1 < p then f (i + 1) else if i + 1 = p then x else f (i + 1 - 1)) = y; rw [if_neg (by omega), if_neg (by omega), Nat.add_sub_cancel, e]⟩
        · exact ⟨p, by omega, by show (if p < p then f p else if p = p then x else f (p - 1)) = y; rw [if_neg (by omega), if_pos rfl, e]⟩
    by_cases z : p = 0
    · rw [if_pos (by rw [z]; decide), nmd]
      exact ins (fun k hk => by omega)
    · have b := h.2.2.2 (p - 1) (by omega)
      rw [if_neg (nI_nle (by omega) (by omega)), show nI p - (1 : Int32) = nI (p - 1) from pk_sub (b := 1) (by omega), ckI (by omega) (by omega), nI_cl (by omega), h.2.1 (p - 1) (by omega)]
      by_cases e : f (p - 1) = x
      · rw [if_pos (by rw [e])]
        refine ⟨M, n, f, rfl, h, by omega, RK.rf, fun y => ⟨fun q => Or.inl q, ?_⟩⟩
        rintro (q | ⟨q, _⟩)
        · exact q
        · exact ⟨p - 1, by omega, by rw [e, q]⟩
      · rw [if_neg (fun q => e ((lN_inj (by omega) (by omega)).mp q)), nmd]
        refine ins (fun k hk => ?_)
        have a := p2 (p - 1) (by omega)
        by_cases ek : k = p - 1
        · rw [ek]; omega
        · have := h.2.2.1 k (p - 1) (by omega) (by omega); omega
  · rw [if_neg (show ¬ lN x < 4294967296 from fun q => c ((lN_lt' (b := 4294967296) (by omega) (by omega)).mp q))]
    exact ⟨M, n, f, rfl, h, by omega, RK.rf, fun y => ⟨fun q => Or.inl q, fun q => q.resolve_right (fun z => c z.2)⟩⟩
/-- an end of one of B's LINES -/
def isCut (B : List L3) (m y : Nat) : Prop := ∃ j, j < m ∧ (y = (bk B j).1 ∨ y = en (bk B j)) ∧ y < 4294967296
theorem r_cutsOf_loop {b : Nat} {B : List L3} (hb : b < 6) (hw : wfB B) (C0 : Nat → Prop) : ∀ fu i (M : gMem) (n : Nat) (f : Nat → Nat), i ≤ B.length → B.length - i < fu → RB M b B → CT M n f → n + 2 * (B.length - i) < 590 → (∀ y, (∃ k, k < n ∧ f k = y) ↔ (C0 y ∨ isCut B i y)) → ∃ M' n' f', mX8_cutsOf_2 fu M (nI b) (nI i) = some M' ∧ CT M' n' f' ∧ n' ≤ n + 2 * (B.length - i) ∧ RK M M' ∧ ∀ y, (∃ k, k < n' ∧ f' k = y) ↔ (C0 y ∨ isCut B B.length y) := by
  intro fu
  induction fu with
  | zero => intro i M n f _ h; omega
  | succ fu ih =>
    intro i M n f hi hf hR hC hn hs
    have h1 := hR.1
    rw [mX8_cutsOf_2, ckI (n := 6) hb (by omega), nI_cl (n := b) (by omega), hR.2.1]
    by_cases z : i < B.length
    · have w := hw.1 i z
      have w1 := w.1
      have we := en_le w
      have hp := pw_le (k := 32 - (bk B i).2.1) (by omega)
      rw [if_neg (nI_ge z (by omega)), ix64, ckJ hb (by omega), nI_cl (by omega), (hR.2.2 i z).1]
      obtain ⟨M1, n1, f1, e1, c1, l1, r1, m1⟩ := r_cuts hC (by omega) (x := (bk B i).1) (by omega)
      have hR1 := hR.rk r1
      rw [e1, Option.bind_some, ckJ hb (by omega), ckJ hb (by omega), (hR1.2.2 i z).2.1, r_size w.2.1, Option.bind_some, (hR1.2.2 i z).1, lN_add, show (bk B i).1 + 2 ^ (32 - (bk B i).2.1) = en (bk B i) from rfl]
      obtain ⟨M2, n2, f2, e2, c2, l2, r2, m2⟩ := r_cuts c1 (by omega) (x := en (bk B i)) we
      have hR2 := hR1.rk r2
      rw [e2, Option.bind_some, nmd, nI_1]
      obtain ⟨M', n', f', e3, c3, l3, r3, m3⟩ := ih (i + 1) M2 n2 f2 (by omega) (by omega) hR2 c2 (by omega) (fun y => by
        rw [m2 y, m1 y, hs y]
        constructor
        · rintro (((q | ⟨j, j1, j2⟩) | ⟨q, q2⟩) | ⟨q, q2⟩)
          · exact Or.inl q
          · exact Or.inr ⟨j, by omega, j2⟩
          · exact Or.inr ⟨i, by omega, Or.inl q, by omega⟩
          · exact Or.inr ⟨i, by omega, Or.inr q, by omega⟩
        · rintro (q | ⟨j, j1, j2, j3⟩)
          · exact Or.inl (Or.inl (Or.inl q))
          · by_cases e : j = i
            · subst e
              rcases j2 with q | q
              · exact Or.inl (Or.inr ⟨q, by omega⟩)
              · exact Or.inr ⟨q, by omega⟩
            · exact Or.inl (Or.inl (Or.inr ⟨j, by omega, j2, j3⟩)))
      exact ⟨M', n', f', e3, c3, by omega, (r1.tr r2).tr r3, m3⟩
    · rw [if_pos (nI_le (by omega) (by omega))]
      have e : i = B.length := by omega
      subst e
      exact ⟨M, n, f, rfl, hC, by omega, RK.rf, hs⟩
theorem r_cutsOf {M : gMem} {b n : Nat} {f : Nat → Nat} {B : List L3} (hb : b < 6) (hw : wfB B) (hR : RB M b B) (hC : CT M n f) (hn : n < 400) : ∃ M' n' f', mX8_cutsOf M (nI b) = some M' ∧ CT M' n' f' ∧ n' ≤ n + 128 ∧ RK M M' ∧ ∀ y, (∃ k, k < n' ∧ f' k = y) ↔ ((∃ k, k < n ∧ f k = y) ∨ isCut B B.length y) := by
  have hfu := FU_big
  have h1 := hR.1
  obtain ⟨M', n', f', e, c, l, r, m⟩ := r_cutsOf_loop hb hw (fun y => ∃ k, k < n ∧ f k = y) FU 0 M n f (by omega) (by omega) hR hC (by omega) (fun y => ⟨fun q => Or.inl q, fun q => q.resolve_right (fun ⟨j, j1, _⟩ => by omega)⟩)
  exact ⟨M', n', f', e, c, by omega, r, m⟩
/-- between two cuts a BOOK LEADS alike -/
theorem lead_const {B : List L3} (hw : wfB B) {u x : Nat} (hu : u ≤ x) (hc : ∀ y, isCut B B.length y → ¬ (u < y ∧ y ≤ x)) (hx : x < 4294967296) : leads B x = leads B u := by
  have e : holder B B.length x = holder B B.length u := by
    unfold holder
    have : ∀ m, m ≤ B.length → lastP (fun i => mt (bk B i) x) m = lastP (fun i => mt (bk B i) u) m := by
      intro m
      induction m with
      | zero => intro _; rfl
      | succ m ih =>
        intro hm
        have q : mt (bk B m) x = mt (bk B m) u := by
          have w := hw.1 m (by omega)
          have a := hc (bk B m).1
          have b := hc (en (bk B m))
          rw [Bool.eq_iff_iff, mt_range w, mt_range w]
          constructor
          · rintro ⟨q1, q2⟩
            by_cases z : (bk B m).1 ≤ u
            · exact ⟨z, by omega⟩
            · exact absurd ⟨by omega, q1⟩ (a ⟨m, by omega, Or.inl rfl, w.1⟩)
          · rintro ⟨q1, q2⟩
            refine ⟨by omega, ?_⟩
            by_cases z : x < en (bk B m)
            · exact z
            · exact absurd ⟨q2, by omega⟩ (b ⟨m, by omega, Or.inr rfl, by omega⟩)
        rw [lastP, lastP, q, ih (by omega)]
    exact this _ (Nat.le_refl _)
  unfold leads
  rw [e]
