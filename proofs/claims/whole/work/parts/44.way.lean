/-! way: the lists of STEPS, and the class -/
def hasL (A : List L3) (q : L3) : Prop := ∃ k, k < A.length ∧ bk A k = q
def hasB (A : List L3) (q : L3) : Prop := ∃ k, k < A.length ∧ sameB (bk A k) q
noncomputable def sel (C : L3 → Prop) (B : List L3) (n : Nat) : Nat → List L3
  | 0 => []
  | m + 1 => sel C B n m ++ (if dB ((bk B m).2.1 = n ∧ C (bk B m)) = true then [bk B m] else [])
noncomputable def selU (C : L3 → Prop) (B : List L3) : Nat → List L3
  | 0 => []
  | r + 1 => selU C B r ++ sel C B (32 - r) B.length
noncomputable def selD (C : L3 → Prop) (B : List L3) : Nat → List L3
  | 0 => []
  | r + 1 => selD C B r ++ sel C B r B.length
theorem sel_len (C : L3 → Prop) (B : List L3) (n : Nat) : ∀ m, (sel C B n m).length ≤ dcnt (fun j => decide ((bk B j).2.1 = n)) m := by
  intro m
  induction m with
  | zero => exact Nat.le_refl _
  | succ m ih =>
    rw [sel, dcnt, List.length_append]
    by_cases c : (bk B m).2.1 = n
    · rw [if_pos (decide_eq_true c)]
      split
      · simp; omega
      · simp; omega
    · rw [dB_f (fun q => c q.1), if_neg (by simp), if_neg (by simp [c])]
      simp; omega
theorem dcnt_add {P Q R : Nat → Bool} (h : ∀ x, (P x = true → R x = true ∧ Q x = false) ∧ (Q x = true → R x = true)) : ∀ t, dcnt P t + dcnt Q t ≤ dcnt R t := by
  intro t
  induction t with
  | zero => exact Nat.le_refl _
  | succ t ih =>
    rw [dcnt, dcnt, dcnt]
    have := h t
    cases p : P t <;> cases q : Q t <;> cases r : R t <;> simp_all <;> omega
theorem selU_len (C : L3 → Prop) (B : List L3) : ∀ r, r ≤ 33 → (selU C B r).length ≤ dcnt (fun j => decide (33 ≤ (bk B j).2.1 + r)) B.length := by
  intro r
  induction r with
  | zero => intro _; exact Nat.zero_le _
  | succ r ih =>
    intro hr
    rw [selU, List.length_append]
    have a := ih (by omega)
    have b := sel_len C B (32 - r) B.length
    have c := dcnt_add (P := fun j => decide (33 ≤ (bk B j).2.1 + r)) (Q := fun j => decide ((bk B j).2.1 = 32 - r)) (R := fun j => decide (33 ≤ (bk B j).2.1 + (r + 1))) (fun x => by
      constructor
      · intro h
        have := of_decide_eq_true h
        exact ⟨decide_eq_true (by omega), decide_eq_false (by omega)⟩
      · intro h
        have := of_decide_eq_true h
        exact decide_eq_true (by omega)) B.length
    omega
theorem selD_len (C : L3 → Prop) (B : List L3) : ∀ r, (selD C B r).length ≤ dcnt (fun j => decide ((bk B j).2.1 < r)) B.length := by
  intro r
  induction r with
  | zero => exact Nat.zero_le _
  | succ r ih =>
    rw [selD, List.length_append]
    have b := sel_len C B r B.length
    have c := dcnt_add (P := fun j => decide ((bk B j).2.1 < r)) (Q := fun j => decide ((bk B j).2.1 = r)) (R := fun j => decide ((bk B j).2.1 < r + 1)) (fun x => by
      constructor
      · intro h
        have := of_decide_eq_true h
        exact ⟨decide_eq_true (by omega), decide_eq_false (by omega)⟩
      · intro h
        have := of_decide_eq_true h
        exact decide_eq_true (by omega)) B.length
    omega
theorem sel_mono (C : L3 → Prop) (B : List L3) (n : Nat) {m m2 : Nat} (h : m ≤ m2) : (sel C B n m).length ≤ (sel C B n m2).length := by
  induction m2 with
  | zero => have : m = 0 := by omega
            subst this; exact Nat.le_refl _
  | succ k ih =>
    by_cases e : m = k + 1
    · rw [e]; exact Nat.le_refl _
    · have := ih (by omega)
      rw [sel, List.length_append]
      omega
theorem sel_mem {C : L3 → Prop} {B : List L3} {n m : Nat} {q : L3} : q ∈ sel C B n m ↔ ∃ j, j < m ∧ q = bk B j ∧ (bk B j).2.1 = n ∧ C (bk B j) := by
  induction m with
  | zero => simp [sel]
  | succ m ih =>
    rw [sel, List.mem_append, ih]
    constructor
    · rintro (⟨j, h1, h2⟩ | h)
      · exact ⟨j, by omega, h2⟩
      · by_cases c : (bk B m).2.1 = n ∧ C (bk B m)
        · rw [if_pos (dB_t c)] at h
          exact ⟨m, by omega, List.mem_singleton.mp h, c⟩
        · rw [if_neg (by rw [dB_f c]; simp)] at h
          cases h
    · rintro ⟨j, h1, h2, h3⟩
      by_cases e : j = m
      · subst e
        exact Or.inr (by rw [if_pos (dB_t h3), h2]; exact List.mem_singleton.mpr rfl)
      · exact Or.inl ⟨j, by omega, h2, h3⟩
theorem selU_mem {C : L3 → Prop} {B : List L3} {r : Nat} {q : L3} (h : q ∈ selU C B r) : ∃ j, j < B.length ∧ q = bk B j ∧ 33 ≤ (bk B j).2.1 + r ∧ C (bk B j) := by
  induction r with
  | zero => cases h
  | succ r ih =>
    rw [selU, List.mem_append] at h
    rcases h with h | h
    · obtain ⟨j, h1, h2, h3, h4⟩ := ih h
      exact ⟨j, h1, h2, by omega, h4⟩
    · obtain ⟨j, h1, h2, h3, h4⟩ := sel_mem.mp h
      exact ⟨j, h1, h2, by omega, h4⟩
theorem selD_mem {C : L3 → Prop} {B : List L3} {r : Nat} {q : L3} (h : q ∈ selD C B r) : ∃ j, j < B.length ∧ q = bk B j ∧ (bk B j).2.1 < r ∧ C (bk B j) := by
  induction r with
  | zero => cases h
  | succ r ih =>
    rw [selD, List.mem_append] at h
    rcases h with h | h
    · obtain ⟨j, h1, h2, h3, h4⟩ := ih h
      exact ⟨j, h1, h2, by omega, h4⟩
    · obtain ⟨j, h1, h2, h3, h4⟩ := sel_mem.mp h
      exact ⟨j, h1, h2, by omega, h4⟩
theorem wf_same {B : List L3} (hw : wfB B) {i j : Nat} (hi : i < B.length) (hj : j < B.length) (h : sameB (bk B i) (bk B j)) : i = j := by
  unfold sameB at h
  rcases Nat.lt_trichotomy i j with q | q | q
  · have := hw.2 i j q hj; unfold ltL at this; omega
  · exact q
  · have := hw.2 j i q hi; unfold ltL at this; omega
theorem sel_pw {C : L3 → Prop} {B : List L3} (hw : wfB B) {n : Nat} : ∀ m, m ≤ B.length → (sel C B n m).Pairwise (fun p q => ¬ sameB p q) := by
  intro m
  induction m with
  | zero => intro _; exact List.Pairwise.nil
  | succ m ih =>
    intro hm
    rw [sel]
    refine List.pairwise_append.mpr ⟨ih (by omega), ?_, fun p hp q hq => ?_⟩
    · split
      · exact List.pairwise_singleton _ _
      · exact List.Pairwise.nil
    · obtain ⟨j, h1, h2, h3⟩ := sel_mem.mp hp
      by_cases c : dB ((bk B m).2.1 = n ∧ C (bk B m)) = true
      · rw [if_pos c] at hq
        have hq := List.mem_singleton.mp hq
        subst hq; subst h2
        intro z
        have := wf_same hw (by omega) (by omega) z
        omega
      · rw [if_neg c] at hq; cases hq
theorem selU_pw {C : L3 → Prop} {B : List L3} (hw : wfB B) : ∀ r, r ≤ 33 → (selU C B r).Pairwise (fun p q => ¬ sameB p q) := by
  intro r
  induction r with
  | zero => intro _; exact List.Pairwise.nil
  | succ r ih =>
    intro hr
    rw [selU]
    refine List.pairwise_append.mpr ⟨ih (by omega), sel_pw hw _ (Nat.le_refl _), fun p hp q hq z => ?_⟩
    obtain ⟨j, h1, h2, h3, h4⟩ := selU_mem hp
    obtain ⟨k, k1, k2, k3, k4⟩ := sel_mem.mp hq
    unfold sameB at z
    rw [h2, k2] at z
    omega
theorem selD_pw {C : L3 → Prop} {B : List L3} (hw : wfB B) : ∀ r, (selD C B r).Pairwise (fun p q => ¬ sameB p q) := by
  intro r
  induction r with
  | zero => exact List.Pairwise.nil
  | succ r ih =>
    rw [selD]
    refine List.pairwise_append.mpr ⟨ih, sel_pw hw _ (Nat.le_refl _), fun p hp q hq z => ?_⟩
    obtain ⟨j, h1, h2, h3, h4⟩ := selD_mem hp
    obtain ⟨k, k1, k2, k3, k4⟩ := sel_mem.mp hq
    unfold sameB at z
    rw [h2, k2] at z
    omega
theorem bk_mem {B : List L3} {i : Nat} (h : i < B.length) : bk B i ∈ B := by
  unfold bk
  rw [List.getD_eq_getElem?_getD, List.getElem?_eq_getElem h]
  exact List.getElem_mem h
theorem pw_bk {U : List L3} (h : U.Pairwise (fun p q => ¬ sameB p q)) {i j : Nat} (hi : i < U.length) (hj : j < U.length) (hs : sameB (bk U i) (bk U j)) : i = j := by
  have e : ∀ k (hk : k < U.length), bk U k = U[k] := fun k hk => by unfold bk; rw [List.getD_eq_getElem?_getD, List.getElem?_eq_getElem hk]; rfl
  have hp := List.pairwise_iff_getElem.mp h
  rcases Nat.lt_trichotomy i j with q | q | q
  · exact absurd (by rw [e i hi, e j hj] at hs; exact hs) (hp i j hi hj q)
  · exact q
  · exact absurd (by rw [e i hi, e j hj] at hs; unfold sameB at hs ⊢; exact ⟨hs.1.symm, hs.2.symm⟩) (hp j i hj hi q)
/-- the STEPS of the WAY from A to B -/
noncomputable def wU (A B : List L3) : List L3 := selU (fun q => ¬ hasL A q) B 33
noncomputable def wV (A B : List L3) : List L3 := selD (fun q => ¬ hasB B q) A 33
theorem wU_len (A B : List L3) : (wU A B).length ≤ B.length := Nat.le_trans (selU_len _ B 33 (Nat.le_refl _)) (dcnt_le _ _)
theorem wV_len (A B : List L3) : (wV A B).length ≤ A.length := Nat.le_trans (selD_len _ A 33) (dcnt_le _ _)
theorem wy_ok {A B : List L3} (wA : wfB A) (wB : wfB B) (hA : A.length ≤ 64) (hB : B.length ≤ 64) : wyW (some (A, wU A B, wV A B)) := by
  have l1 := wU_len A B
  have l2 := wV_len A B
  refine ⟨wA, fun i hi => ?_, fun i hi => ?_, hA, by omega, by omega, fun i j hi hj h => pw_bk (selU_pw wB 33 (Nat.le_refl _)) hi hj h, fun i j hi hj h => pw_bk (selD_pw wA 33) hi hj h, fun i j hi hj h => ?_, fun j hj => ?_⟩
  · obtain ⟨j, h1, h2, -⟩ := selU_mem (bk_mem hi)
    show wfL (bk (wU A B) i)
    unfold wU
    rw [h2]; exact wB.1 j h1
  · obtain ⟨j, h1, h2, -⟩ := selD_mem (bk_mem hi)
    show wfL (bk (wV A B) i)
    unfold wV
    rw [h2]; exact wA.1 j h1
  · obtain ⟨k, h1, h2, -⟩ := selU_mem (bk_mem hi)
    obtain ⟨m, m1, m2, -, m4⟩ := selD_mem (bk_mem hj)
    unfold wU wV at h
    rw [h2, m2] at h
    exact m4 ⟨k, h1, h⟩
  · obtain ⟨m, m1, m2, -, -⟩ := selD_mem (bk_mem hj)
    exact ⟨m, m1, m2.symm⟩
theorem m_hasLine {M : gMem} {l : Nat} {A : List L3} (h : LB M l A) (hw : wfB A) {q : L3} (hq : wfL q) : mX2_hasLine M l (nI q.1) (nI q.2.1) (nI q.2.2) = some (bz (dB (hasL A q))) := by
  obtain ⟨a, n, g⟩ := q
  obtain ⟨q1, q2, q3, q4⟩ := hq
  have q1 : a < 4294967296 := q1
  have q2 : n ≤ 32 := q2
  have q3 : g ≤ 16 := q3
  obtain ⟨p, ep, p1, p2, p3⟩ := m_placeOf h hw q1 q2
  have h1 := h.1; have h2 := h.2.1
  show mX2_hasLine M l (nI a) (nI n) (nI g) = _
  rw [mX2_hasLine, ep, Option.bind_some, m_isAt h (by omega), Option.bind_some]
  by_cases hat : p < A.length ∧ nI (bk A p).1 = nI a ∧ nI (bk A p).2.1 = nI n
  · have w := hw.1 p hat.1
    have w1 := w.1; have w2 := w.2.1; have w3 := w.2.2.1
    have z1 := (nI_inj w1 q1).mp hat.2.1
    have z2 := (nI_inj (by omega) (by omega)).mp hat.2.2
    rw [decide_eq_true hat, if_neg (show ¬ bz true = 0 from one_ne), ckI (by omega) (by omega), nI_cl (by omega), (h.2.2.2.2 p hat.1).2.2]
    by_cases c : (bk A p).2.2 = g
    · rw [if_pos (by rw [c]), dB_t ⟨p, hat.1, Prod.ext z1 (Prod.ext z2 c)⟩]; rfl
    · rw [if_neg (fun z => c ((nI_inj (by omega) (by omega)).mp z)), dB_f]
      · rfl
      · rintro ⟨k, k1, k2⟩
        have : k = p := wf_same hw k1 hat.1 ⟨by rw [k2, z1], by rw [k2, z2]⟩
        subst this
        rw [k2] at c
        exact c rfl
  · rw [decide_eq_false hat, if_pos (show bz false = 0 from rfl), dB_f]
    · rfl
    · rintro ⟨k, k1, k2⟩
      have kp : k = p := by
        have e1 : (bk A k).1 = a := by rw [k2]
        have e2 : (bk A k).2.1 = n := by rw [k2]
        rcases Nat.lt_trichotomy k p with q | q | q
        · have := p2 k q; unfold ltK at this; omega
        · exact q
        · have := hw.2 p k q k1
          have z := p3 p (Nat.le_refl _) (by omega)
          unfold ltL at this; unfold ltK at z; omega
      subst kp
      exact hat ⟨k1, by rw [k2], by rw [k2]⟩
theorem m_hasBeg {M : gMem} {l : Nat} {A : List L3} (h : LB M l A) (hw : wfB A) {q : L3} (hq : wfL q) : mX2_hasBeginning M l (nI q.1) (nI q.2.1) = some (bz (dB (hasB A q))) := by
  obtain ⟨a, n, g⟩ := q
  obtain ⟨q1, q2, q3, q4⟩ := hq
  have q1 : a < 4294967296 := q1
  have q2 : n ≤ 32 := q2
  have q3 : g ≤ 16 := q3
  obtain ⟨p, ep, p1, p2, p3⟩ := m_placeOf h hw q1 q2
  have h1 := h.1; have h2 := h.2.1
  show mX2_hasBeginning M l (nI a) (nI n) = _
  rw [mX2_hasBeginning, ep, Option.bind_some, m_isAt h (by omega), Option.bind_some]
  by_cases hat : p < A.length ∧ nI (bk A p).1 = nI a ∧ nI (bk A p).2.1 = nI n
  · have w := hw.1 p hat.1
    have w1 := w.1; have w2 := w.2.1
    rw [decide_eq_true hat, ck_t (show tv (bz true) = true from rfl), dB_t ⟨p, hat.1, (nI_inj w1 q1).mp hat.2.1, (nI_inj (by omega) (by omega)).mp hat.2.2⟩]
  · rw [decide_eq_false hat, ck_t (show tv (bz false) = true from rfl), dB_f]
    rintro ⟨k, k1, k2, k3⟩
    have k2 : (bk A k).1 = a := k2
    have k3 : (bk A k).2.1 = n := k3
    have kp : k = p := by
      rcases Nat.lt_trichotomy k p with q | q | q
      · have := p2 k q; unfold ltK at this; omega
      · exact q
      · have := hw.2 p k q k1
        have z := p3 p (Nat.le_refl _) (by omega)
        unfold ltL at this; unfold ltK at z; omega
    subst kp
    exact hat ⟨k1, by rw [k2], by rw [k3]⟩
theorem ln58 : lnOf 58 = 64 := rfl
theorem ln62 : lnOf 62 = 64 := rfl
theorem ln54 : lnOf 54 = 64 := rfl
theorem m_puts_loop {lA lB n : Nat} {A B U0 : List L3} (hdA : lA + 4 ≤ 58) (hdB : lB + 4 ≤ 58) (wA : wfB A) (wB : wfB B) (hn : n ≤ 32) (hlen : (U0 ++ sel (fun q => ¬ hasL A q) B n B.length).length ≤ 64) : ∀ f i (M : gMem), i ≤ B.length → B.length - i < f → LB M lA A → LB M lB B → LB M 58 (U0 ++ sel (fun q => ¬ hasL A q) B n i) → ∃ M', mX6_appendPuts_3 f M lA lB (nI n) (nI i) = some M' ∧ Off 58 4 M M' ∧ LB M' 58 (U0 ++ sel (fun q => ¬ hasL A q) B n B.length) := by
  intro f
  induction f with
  | zero => intro i M _ h; omega
  | succ f ih =>
    intro i M hi hf hA hB hU
    have b1 := hB.1; have b2 := hB.2.1
    rw [mX6_appendPuts_3, hB.2.2.1]
    by_cases z : i < B.length
    · have w := wB.1 i z
      have w2 := w.2.1
      obtain ⟨e1, e2, e3⟩ := hB.2.2.2.2 i z
      rw [if_neg (nI_ge z (by omega)), ckI (by omega) (by omega), nI_cl (by omega), e2]
      have keep : ¬ ((bk B i).2.1 = n ∧ ¬ hasL A (bk B i)) → ∃ M', mX6_appendPuts_3 f M lA lB (nI n) (nI (i + 1)) = some M' ∧ Off 58 4 M M' ∧ LB M' 58 (U0 ++ sel (fun q => ¬ hasL A q) B n B.length) := by
        intro q
        refine ih (i + 1) M (by omega) (by omega) hA hB ?_
        rw [sel, if_neg (by rw [dB_f q]; simp), List.append_nil]
        exact hU
      by_cases c : (bk B i).2.1 = n
      · rw [if_pos (by rw [c]), ckI (by omega) (by omega), ckI (by omega) (by omega), e1, e3, ← c, m_hasLine hA wA w, Option.bind_some]
        by_cases d : hasL A (bk B i)
        · rw [dB_t d, if_neg (show ¬ bz true = 0 from one_ne), nmd, nI_1, c]
          exact keep (fun q => q.2 d)
        · rw [dB_f d, if_pos (show bz false = 0 from rfl), ckI (by omega) (by omega), ckI (by omega) (by omega)]
          obtain ⟨M1, f1, o1, u1⟩ := m_append (a := (bk B i).1) (n := (bk B i).2.1) (g := (bk B i).2.2) hU
          have room : (U0 ++ sel (fun q => ¬ hasL A q) B n i).length < lnOf 58 := by
            have m1 := sel_mono (fun q => ¬ hasL A q) B n (m := i + 1) (m2 := B.length) (by omega)
            rw [sel, if_pos (dB_t ⟨c, d⟩), List.length_append] at m1
            rw [List.length_append] at hlen ⊢
            rw [ln58]
            simp at m1
            omega
          rw [if_pos room] at u1
          rw [f1, Option.bind_some, nmd, nI_1, c]
          obtain ⟨M', g1, g2, g3⟩ := ih (i + 1) M1 (by omega) (by omega) (hA.off o1 (by omega)) (hB.off o1 (by omega)) (by
            rw [sel, if_pos (dB_t ⟨c, d⟩), ← List.append_assoc]
            exact u1)
          exact ⟨M', g1, o1.tr g2, g3⟩
      · rw [if_neg (fun q => c ((nI_inj (by omega) (by omega)).mp q)), nmd, nI_1]
        exact keep (fun q => c q.1)
    · have e : i = B.length := by omega
      subst e
      rw [if_pos (nI_le (Nat.le_refl _) (by omega))]
      exact ⟨M, rfl, Off.rf, hU⟩
theorem m_drops_loop {lA lB n : Nat} {A B U0 : List L3} (hdA : lA + 4 ≤ 62) (hdB : lB + 4 ≤ 62) (wA : wfB A) (wB : wfB B) (hn : n ≤ 32) (hlen : (U0 ++ sel (fun q => ¬ hasB B q) A n A.length).length ≤ 64) : ∀ f i (M : gMem), i ≤ A.length → A.length - i < f → LB M lA A → LB M lB B → LB M 62 (U0 ++ sel (fun q => ¬ hasB B q) A n i) → ∃ M', mX6_appendDrops_3 f M lA lB (nI n) (nI i) = some M' ∧ Off 62 4 M M' ∧ LB M' 62 (U0 ++ sel (fun q => ¬ hasB B q) A n A.length) := by
  intro f
  induction f with
  | zero => intro i M _ h; omega
  | succ f ih =>
    intro i M hi hf hA hB hU
    have b1 := hA.1; have b2 := hA.2.1
    rw [mX6_appendDrops_3, hA.2.2.1]
    by_cases z : i < A.length
    · have w := wA.1 i z
      have w2 := w.2.1
      obtain ⟨e1, e2, e3⟩ := hA.2.2.2.2 i z
      rw [if_neg (nI_ge z (by omega)), ckI (by omega) (by omega), nI_cl (by omega), e2]
      have keep : ¬ ((bk A i).2.1 = n ∧ ¬ hasB B (bk A i)) → ∃ M', mX6_appendDrops_3 f M lA lB (nI n) (nI (i + 1)) = some M' ∧ Off 62 4 M M' ∧ LB M' 62 (U0 ++ sel (fun q => ¬ hasB B q) A n A.length) := by
        intro q
        refine ih (i + 1) M (by omega) (by omega) hA hB ?_
        rw [sel, if_neg (by rw [dB_f q]; simp), List.append_nil]
        exact hU
      by_cases c : (bk A i).2.1 = n
      · rw [if_pos (by rw [c]), ckI (by omega) (by omega), e1, e3, ← c, m_hasBeg hB wB w, Option.bind_some]
        by_cases d : hasB B (bk A i)
        · rw [dB_t d, if_neg (show ¬ bz true = 0 from one_ne), nmd, nI_1, c]
          exact keep (fun q => q.2 d)
        · rw [dB_f d, if_pos (show bz false = 0 from rfl), ckI (by omega) (by omega), ckI (by omega) (by omega)]
          obtain ⟨M1, f1, o1, u1⟩ := m_append (a := (bk A i).1) (n := (bk A i).2.1) (g := (bk A i).2.2) hU
          have room : (U0 ++ sel (fun q => ¬ hasB B q) A n i).length < lnOf 62 := by
            have m1 := sel_mono (fun q => ¬ hasB B q) A n (m := i + 1) (m2 := A.length) (by omega)
            rw [sel, if_pos (dB_t ⟨c, d⟩), List.length_append] at m1
            rw [List.length_append] at hlen ⊢
            rw [ln62]
            simp at m1
            omega
          rw [if_pos room] at u1
          rw [f1, Option.bind_some, nmd, nI_1, c]
          obtain ⟨M', g1, g2, g3⟩ := ih (i + 1) M1 (by omega) (by omega) (hA.off o1 (by omega)) (hB.off o1 (by omega)) (by
            rw [sel, if_pos (dB_t ⟨c, d⟩), ← List.append_assoc]
            exact u1)
          exact ⟨M', g1, o1.tr g2, g3⟩
      · rw [if_neg (fun q => c ((nI_inj (by omega) (by omega)).mp q)), nmd, nI_1]
        exact keep (fun q => c q.1)
    · have e : i = A.length := by omega
      subst e
      rw [if_pos (nI_le (Nat.le_refl _) (by omega))]
      exact ⟨M, rfl, Off.rf, hU⟩
