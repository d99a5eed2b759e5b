/-! two BOOKS merged -/
theorem mix0 (g h : Nat) : mixG 0 g h = if g = 16 then h else g := rfl
theorem mix1 (g h : Nat) : mixG 1 g h = if g = h then g else 16 := rfl
theorem mix2 (g h : Nat) : mixG 2 g h = if h = 16 then g else 16 := rfl
theorem m_mixed {how g h : Nat} (hh : how ≤ 2) (hg : g ≤ 16) (h16 : h ≤ 16) : mX2_mixed (nI how) (nI g) (nI h) = some (nI (mixG how g h)) := by
  rw [mX2_mixed]
  have e16 : ∀ x, x ≤ 16 → (nI x = 16 ↔ x = 16) := fun x hx => nI_inj (b := 16) (by omega) (by omega)
  have egh : nI g = nI h ↔ g = h := nI_inj (by omega) (by omega)
  rcases (show how = 0 ∨ how = 1 ∨ how = 2 by omega) with rfl | rfl | rfl
  · rw [if_pos (show nI 0 = 0 from rfl), mix0]
    by_cases c : g = 16
    · rw [if_pos ((e16 g hg).mpr c), if_pos c]
    · rw [if_neg (show ¬ nI g = 16 from fun q => c ((e16 g hg).mp q)), if_neg c]
  · rw [if_neg (show ¬ nI 1 = 0 by decide), if_pos (show nI 1 = 1 from rfl), mix1]
    by_cases c : g = h
    · rw [if_pos (egh.mpr c), if_pos c]
    · rw [if_neg (show ¬ nI g = nI h from fun q => c (egh.mp q)), if_neg c]; rfl
  · rw [if_neg (show ¬ nI 2 = 0 by decide), if_neg (show ¬ nI 2 = 1 by decide), mix2]
    by_cases c : h = 16
    · rw [if_pos ((e16 h h16).mpr c), if_pos c]
    · rw [if_neg (show ¬ nI h = 16 from fun q => c ((e16 h h16).mp q)), if_neg c]; rfl
theorem mixG_16 {how g h : Nat} (hh : how ≤ 2) (hg : g ≤ 16) (h16 : h ≤ 16) : mixG how g h ≤ 16 := by
  rcases (show how = 0 ∨ how = 1 ∨ how = 2 by omega) with rfl | rfl | rfl
  · rw [mix0]; split <;> omega
  · rw [mix1]; split <;> omega
  · rw [mix2]; split <;> omega
/-- the first LINES of a BOOK, up to one -/
def upTo (A : List L3) (q : L3) (i : Nat) : Prop := i ≤ A.length ∧ (∀ k, k < i → ¬ ltL q (bk A k)) ∧ ∀ k, i ≤ k → k < A.length → ltL q (bk A k)
def mgOK (how : Nat) (A B : List L3) (q : L3) : Prop := ∃ i j, upTo A q i ∧ upTo B q j ∧ q.2.2 = mixG how (goalOf A (holder A i q.1)) (goalOf B (holder B j q.1))
theorem nest {a q : L3} (ha : wfL a) (hq : wfL q) (hb : a.2.1 ≤ q.2.1) {x : Nat} (h1 : mt a x = true) (h2 : mt q x = true) : a.1 ≤ q.1 ∧ en q ≤ en a := by
  have r1 := (mt_range ha x).mp h1
  have r2 := (mt_range hq x).mp h2
  have kk : 32 - q.2.1 ≤ 32 - a.2.1 := by omega
  have al1 : a.1 % 2 ^ (32 - q.2.1) = 0 := mod_pw kk ha.2.2.2
  have al2 : en a % 2 ^ (32 - q.2.1) = 0 := by
    refine mod_pw kk ?_
    unfold en
    rw [Nat.add_mod_right]; exact ha.2.2.2
  refine ⟨?_, al_le hq.2.2.2 al2 (by omega)⟩
  refine Classical.byContradiction fun z => ?_
  have := al_le hq.2.2.2 al1 (by omega)
  unfold en at r2; omega
theorem mt_sb {p q : L3} (h : sameB p q) (x : Nat) : mt p x = mt q x := by
  unfold mt
  rw [h.1, h.2]
theorem holder_eq {A : List L3} (wA : wfB A) {T : List L3} (wT : wfB T) (hT : ∀ k, k < A.length → ∃ p, p ∈ T ∧ sameB p (bk A k)) {m x i : Nat} (hm : m < T.length) (hx : mt (bk T m) x = true) (hlast : ∀ j, m < j → j < T.length → mt (bk T j) x = false) (hi : upTo A (bk T m) i) : holder A i (bk T m).1 = holder A A.length x := by
  obtain ⟨i1, i2, i3⟩ := hi
  have wq := wT.1 m hm
  have rx := (mt_range wq x).mp hx
  have fwd : ∀ k, k < A.length → mt (bk A k) x = true → k < i ∧ mt (bk A k) (bk T m).1 = true := by
    intro k hk hkx
    have wk := wA.1 k hk
    obtain ⟨p, p1, p2⟩ := hT k hk
    obtain ⟨m', e1, e2⟩ := List.getElem_of_mem p1
    have em : bk T m' = p := by rw [bk_get e1]; exact e2
    have px : mt (bk T m') x = true := by rw [em, mt_sb p2]; exact hkx
    have mm : m' ≤ m := by
      refine Classical.byContradiction fun z => ?_
      rw [hlast m' (by omega) e1] at px; cases px
    have bits : (bk A k).2.1 ≤ (bk T m).2.1 := by
      by_cases e : m' = m
      · rw [← e, em, p2.2]; exact Nat.le_refl _
      · have := mt_lt wT (show m' < m by omega) hm px hx
        rw [em, p2.2] at this; omega
    have ne := nest wk wq bits hkx hx
    refine ⟨?_, (mt_range wk _).mpr ⟨ne.1, ?_⟩⟩
    · refine Classical.byContradiction fun z => ?_
      have lt := i3 k (by omega) hk
      by_cases e : m' = m
      · rw [← e, em] at lt
        unfold ltL at lt
        rw [p2.1, p2.2] at lt; omega
      · have lt2 := wT.2 m' m (by omega) hm
        rw [em] at lt2
        unfold ltL at lt lt2
        rw [p2.1, p2.2] at lt2; omega
    · have := pw_pos (32 - (bk T m).2.1)
      have e := ne.2
      unfold en at e ⊢
      omega
  have bwd : ∀ k, k < i → mt (bk A k) (bk T m).1 = true → mt (bk A k) x = true := by
    intro k hk hks
    have wk := wA.1 k (by omega)
    have rs := (mt_range wk _).mp hks
    have le := i2 k hk
    have bits : (bk A k).2.1 ≤ (bk T m).2.1 := by
      refine Classical.byContradiction fun z => ?_
      have w2 := wk.2.1
      have al : (bk T m).1 % 2 ^ (32 - (bk A k).2.1) = 0 := mod_pw (by omega) wq.2.2.2
      have eqa : (bk A k).1 = (bk T m).1 := by
        refine Classical.byContradiction fun y => ?_
        have := al_le wk.2.2.2 al (by omega)
        unfold en at rs; omega
      exact le (Or.inr ⟨eqa.symm, by omega⟩)
    have self : mt (bk T m) (bk T m).1 = true := (mt_range wq _).mpr ⟨Nat.le_refl _, by have := pw_pos (32 - (bk T m).2.1); unfold en; omega⟩
    have ne := nest wk wq bits hks self
    exact (mt_range wk x).mpr ⟨by omega, by omega⟩
  unfold holder
  cases h : lastP (fun i => mt (bk A i) x) A.length with
  | none =>
    refine lastP_none.mpr (fun k hk => ?_)
    cases z : mt (bk A k) (bk T m).1 with
    | false => rfl
    | true =>
      have a := bwd k hk z
      have b := lastP_none.mp h k (by omega)
      rw [a] at b; cases b
  | some k =>
    obtain ⟨k1, k2, k3⟩ := lastP_some.mp h
    obtain ⟨f1, f2⟩ := fwd k k1 k2
    refine lastP_some.mpr ⟨f1, f2, fun j j1 j2 => ?_⟩
    cases z : mt (bk A j) (bk T m).1 with
    | false => rfl
    | true =>
      have a := bwd j j2 z
      have b := k3 j j1 (by omega)
      rw [a] at b; cases b
theorem merged {how : Nat} (hh : how ≤ 2) {A B T : List L3} (wA : wfB A) (wB : wfB B) (wT : wfB T) (hA : ∀ k, k < A.length → ∃ p, p ∈ T ∧ sameB p (bk A k)) (hB : ∀ k, k < B.length → ∃ p, p ∈ T ∧ sameB p (bk B k)) (hg : ∀ q, q ∈ T → mgOK how A B q) : leads T = mixF how A B := by
  funext x
  rcases leadR_cases T 0 T.length 16 x with ⟨m, _, m1, m2, m3, m4⟩ | ⟨a, m4⟩
  · rw [leads_R, m4]
    obtain ⟨i, j, u1, u2, u3⟩ := hg _ (bk_mem m1)
    rw [u3, holder_eq wA wT hA m1 m2 m3 u1, holder_eq wB wT hB m1 m2 m3 u2]
    rfl
  · rw [leads_R, m4]
    have no : ∀ A : List L3, (∀ k, k < A.length → ∃ p, p ∈ T ∧ sameB p (bk A k)) → leads A x = 16 := by
      intro A hA
      rw [leads_R]
      refine leadR_none (fun k _ hk => ?_)
      obtain ⟨p, p1, p2⟩ := hA k hk
      obtain ⟨m', e1, e2⟩ := List.getElem_of_mem p1
      have em : bk T m' = p := by rw [bk_get e1]; exact e2
      rw [← mt_sb p2, ← em]
      exact a m' (Nat.zero_le _) e1
    unfold mixF
    rw [no A hA, no B hB]
    rcases (show how = 0 ∨ how = 1 ∨ how = 2 by omega) with rfl | rfl | rfl <;> rfl
/-- the state of a merge -/
def mgS (how : Nat) (A B T : List L3) (i j : Nat) : Prop := i ≤ A.length ∧ j ≤ B.length ∧ T.length ≤ i + j ∧ T.Pairwise ltL ∧ (∀ p, p ∈ T → wfL p ∧ mgOK how A B p ∧ (∀ k, i ≤ k → k < A.length → ltL p (bk A k)) ∧ ∀ k, j ≤ k → k < B.length → ltL p (bk B k)) ∧ (∀ k, k < i → ∃ p, p ∈ T ∧ sameB p (bk A k)) ∧ ∀ k, k < j → ∃ p, p ∈ T ∧ sameB p (bk B k)
theorem mg_step {how : Nat} (hh : how ≤ 2) {A B T : List L3} (wA : wfB A) (wB : wfB B) {i j i' j' : Nat} (h : mgS how A B T i j) {q : L3} (hi : i ≤ i' ∧ i' ≤ i + 1 ∧ i' ≤ A.length) (hj : j ≤ j' ∧ j' ≤ j + 1 ∧ j' ≤ B.length) (hij : i + j < i' + j') (bA : ∀ k, i ≤ k → k < i' → sameB q (bk A k)) (bB : ∀ k, j ≤ k → k < j' → sameB q (bk B k)) (cA : ∀ k, i' ≤ k → k < A.length → ltL q (bk A k)) (cB : ∀ k, j' ≤ k → k < B.length → ltL q (bk B k)) (hlt : ∀ p, p ∈ T → ltL p q) (hq : wfL (q.1, q.2.1, 0)) (hgq : q.2.2 = mixG how (goalOf A (holder A i' q.1)) (goalOf B (holder B j' q.1))) : mgS how A B (T ++ [q]) i' j' := by
  obtain ⟨h1, h2, h3, h4, h5, h6, h7⟩ := h
  have nlt : ∀ (A : List L3) (i i' : Nat), i' ≤ i + 1 → (∀ k, k < i → ∃ p, p ∈ T ∧ sameB p (bk A k)) → (∀ k, i ≤ k → k < i' → sameB q (bk A k)) → ∀ k, k < i' → ¬ ltL q (bk A k) := by
    intro A i i' _ a b k hk z
    by_cases c : k < i
    · obtain ⟨p, p1, p2⟩ := a k c
      have l := hlt p p1
      unfold ltL at l z
      rw [← p2.1, ← p2.2] at z; omega
    · have s := b k (by omega) hk
      unfold ltL at z
      rw [s.1, s.2] at z; omega
  have g16 : ∀ (A : List L3), wfB A → ∀ i x, i ≤ A.length → goalOf A (holder A i x) ≤ 16 := by
    intro A w i x hi
    cases z : holder A i x with
    | none => exact Nat.le_refl _
    | some k => exact (w.1 k (by have := holder_lt z; omega)).2.2.1
  refine ⟨hi.2.2, hj.2.2, by rw [List.length_append, List.length_singleton]; omega, List.pairwise_append.mpr ⟨h4, by simp, fun a ha b hb => ?_⟩, fun p hp => ?_, fun k hk => ?_, fun k hk => ?_⟩
  · rw [List.mem_singleton.mp hb]; exact hlt a ha
  · rcases List.mem_append.mp hp with z | z
    · have l := hlt p z
      have w := h5 p z
      exact ⟨w.1, w.2.1, fun k k1 k2 => w.2.2.1 k (by omega) k2, fun k k1 k2 => w.2.2.2 k (by omega) k2⟩
    · rw [List.mem_singleton.mp z]
      refine ⟨⟨hq.1, hq.2.1, ?_, hq.2.2.2⟩, ⟨i', j', ⟨hi.2.2, nlt A i i' hi.2.1 h6 bA, cA⟩, ⟨hj.2.2, nlt B j j' hj.2.1 h7 bB, cB⟩, hgq⟩, cA, cB⟩
      rw [hgq]; exact mixG_16 hh (g16 A wA i' _ hi.2.2) (g16 B wB j' _ hj.2.2)
  · by_cases c : k < i
    · obtain ⟨p, p1, p2⟩ := h6 k c
      exact ⟨p, List.mem_append.mpr (Or.inl p1), p2⟩
    · exact ⟨q, by simp, bA k (by omega) hk⟩
  · by_cases c : k < j
    · obtain ⟨p, p1, p2⟩ := h7 k c
      exact ⟨p, List.mem_append.mpr (Or.inl p1), p2⟩
    · exact ⟨q, by simp, bB k (by omega) hk⟩
theorem ltL_tr {p q r : L3} (h : ltL p q) (g : ltL q r) : ltL p r := by unfold ltL at h g ⊢; omega
theorem m_merge_loop {how lA lB : Nat} (hh : how ≤ 2) {A B : List L3} (wA : wfB A) (wB : wfB B) (hlA : lA + 4 ≤ 26) (hlB : lB + 4 ≤ 26) (h128 : A.length + B.length ≤ 128) : ∀ f i j (M : gMem) (T : List L3), A.length - i + (B.length - j) < f → LB M lA A → LB M lB B → LB M 26 T → mgS how A B T i j → ∃ M' T', mX2_merge_13 f M 26 lA lB (nI how) (nI i) (nI j) (nI T.length) = some M' ∧ Off 26 4 M M' ∧ LB M' 26 T' ∧ mgS how A B T' A.length B.length := by
  intro f
  induction f with
  | zero => intro i j M T h; omega
  | succ f ih =>
    intro i j M T hf hA hB hT hS
    obtain ⟨s1, s2, s3, s4, s5, s6, s7⟩ := id hS
    obtain ⟨a1, a2, a3, a4, a5⟩ := id hA
    obtain ⟨b1, b2, b3, b4, b5⟩ := id hB
    rw [mX2_merge_13]
    by_cases full : i = A.length ∧ j = B.length
    · obtain ⟨e1, e2⟩ := full
      subst e1; subst e2
      refine ⟨M, T, ?_, Off.rf, hT, hS⟩
      by_cases c : (128 : Int32) ≤ nI T.length
      · rw [if_pos c]
      · rw [if_neg c, a3, if_neg (nI_nlt (Nat.le_refl _) (by omega)), b3, if_pos (nI_le (Nat.le_refl _) (by omega))]
    · have tl : T.length < 128 := by omega
      rw [if_neg (show ¬ (128 : Int32) ≤ nI T.length from nI_ge (b := 128) tl (by omega))]
      -- what a turn does
      have last : ∀ (q : L3) (i' j' : Nat), (i ≤ i' ∧ i' ≤ i + 1 ∧ i' ≤ A.length) → (j ≤ j' ∧ j' ≤ j + 1 ∧ j' ≤ B.length) → i + j < i' + j' → (∀ k, i ≤ k → k < i' → sameB q (bk A k)) → (∀ k, j ≤ k → k < j' → sameB q (bk B k)) → (∀ k, i' ≤ k → k < A.length → ltL q (bk A k)) → (∀ k, j' ≤ k → k < B.length → ltL q (bk B k)) → (∀ p, p ∈ T → ltL p q) → wfL (q.1, q.2.1, 0) → ∃ M' T', mX2_merge_167 (mX2_merge_13 f) M 26 lA lB (nI how) (nI i') (nI j') (nI T.length) (nI q.1) (nI q.2.1) = some M' ∧ Off 26 4 M M' ∧ LB M' 26 T' ∧ mgS how A B T' A.length B.length := by
        intro q i' j' hi hj hij bA bB cA cB hlt hq
        have g1 := m_goalAmong hA wA.1 (x := q.1) (k := i') hq.1 (by omega)
        have g2 := m_goalAmong hB wB.1 (x := q.1) (k := j') hq.1 (by omega)
        rw [show min A.length i' = i' by omega] at g1
        rw [show min B.length j' = j' by omega] at g2
        have go16 : ∀ (A : List L3), wfB A → ∀ i x, i ≤ A.length → goalOf A (holder A i x) ≤ 16 := by
          intro A w i x hi
          cases z : holder A i x with
          | none => exact Nat.le_refl _
          | some k => exact (w.1 k (by have := holder_lt z; omega)).2.2.1
        rw [mX2_merge_167, g1, Option.bind_some, g2, Option.bind_some, m_mixed hh (go16 A wA _ _ hi.2.2) (go16 B wB _ _ hj.2.2), Option.bind_some]
        obtain ⟨M1, e1, e2, e3⟩ := m_append hT (a := q.1) (n := q.2.1) (g := mixG how (goalOf A (holder A i' q.1)) (goalOf B (holder B j' q.1)))
        rw [ln26, if_pos tl] at e3
        rw [e1, Option.bind_some, nmd, nI_1]
        have st := mg_step hh wA wB hS (q := (q.1, q.2.1, mixG how (goalOf A (holder A i' q.1)) (goalOf B (holder B j' q.1)))) hi hj hij bA bB cA cB hlt hq rfl
        obtain ⟨M2, T2, r1, r2, r3, r4⟩ := ih i' j' M1 _ (by omega) (hA.off e2 (by omega)) (hB.off e2 (by omega)) e3 st
        rw [List.length_append, List.length_singleton] at r1
        exact ⟨M2, T2, r1, e2.tr r2, r3, r4⟩
      have turnA : i < A.length → (j < B.length → ¬ ltL (bk B j) (bk A i)) → ∃ M' T', mX2_merge_85 (mX2_merge_13 f) M 26 lA lB (nI how) (nI i) (nI j) (nI T.length) 1 = some M' ∧ Off 26 4 M M' ∧ LB M' 26 T' ∧ mgS how A B T' A.length B.length := by
        intro hi hn
        have w := wA.1 i hi
        have w1 := w.1; have w2 := w.2.1
        have lt : ∀ p, p ∈ T → ltL p (bk A i) := fun p hp => (s5 p hp).2.2.1 i (Nat.le_refl _) hi
        have nxt : ∀ k, i + 1 ≤ k → k < A.length → ltL (bk A i) (bk A k) := fun k k1 k2 => wA.2 i k (by omega) k2
        rw [mX2_merge_85, if_neg one_ne, ckI (by omega) (by omega), nI_cl (by omega), (a5 i hi).1, mX2_merge_109, if_neg one_ne, ckI (by omega) (by omega), nI_cl (by omega), (a5 i hi).2.1, mX2_merge_133, m_isAt hA (by omega), decide_eq_true (show i < A.length ∧ nI (bk A i).1 = nI (bk A i).1 ∧ nI (bk A i).2.1 = nI (bk A i).2.1 from ⟨hi, rfl, rfl⟩), Option.bind_some, if_neg (show ¬ bz true = 0 from one_ne), nmd, nI_1, m_isAt hB (by omega), Option.bind_some]
        by_cases c : j < B.length ∧ nI (bk B j).1 = nI (bk A i).1 ∧ nI (bk B j).2.1 = nI (bk A i).2.1
        · have wb := wB.1 j c.1
          have wb1 := wb.1; have wb2 := wb.2.1
          have q1 := (nI_inj (by omega) (by omega)).mp c.2.1
          have q2 := (nI_inj (by omega) (by omega)).mp c.2.2
          rw [decide_eq_true c, if_neg (show ¬ bz true = 0 from one_ne), nmd, nI_1]
          refine last (bk A i) (i + 1) (j + 1) (by omega) (by omega) (by omega) (fun k k1 k2 => by rw [show k = i by omega]; exact ⟨rfl, rfl⟩) (fun k k1 k2 => by rw [show k = j by omega]; exact ⟨q1.symm, q2.symm⟩) nxt (fun k k1 k2 => ?_) lt ⟨w1, w2, by show 0 ≤ 16; omega, w.2.2.2⟩
          have := wB.2 j k (by omega) k2
          unfold ltL at this ⊢; omega
        · rw [decide_eq_false c, if_pos (show bz false = 0 from rfl)]
          have bj : ∀ k, j ≤ k → k < B.length → ltL (bk A i) (bk B k) := by
            intro k k1 k2
            have x := hn (by omega)
            have y : ltL (bk A i) (bk B j) := by
              have z : ¬ ((bk B j).1 = (bk A i).1 ∧ (bk B j).2.1 = (bk A i).2.1) := fun z => c ⟨by omega, by rw [z.1], by rw [z.2]⟩
              unfold ltL at x ⊢; omega
            by_cases e : k = j
            · rw [e]; exact y
            · exact ltL_tr y (wB.2 j k (by omega) k2)
          exact last (bk A i) (i + 1) j (by omega) (by omega) (by omega) (fun k k1 k2 => by rw [show k = i by omega]; exact ⟨rfl, rfl⟩) (fun k k1 k2 => by omega) nxt bj lt ⟨w1, w2, by show 0 ≤ 16; omega, w.2.2.2⟩
      have turnB : j < B.length → (i < A.length → ltL (bk B j) (bk A i)) → ∃ M' T', mX2_merge_85 (mX2_merge_13 f) M 26 lA lB (nI how) (nI i) (nI j) (nI T.length) 0 = some M' ∧ Off 26 4 M M' ∧ LB M' 26 T' ∧ mgS how A B T' A.length B.length := by
        intro hj hn
        have w := wB.1 j hj
        have w1 := w.1; have w2 := w.2.1
        have lt : ∀ p, p ∈ T → ltL p (bk B j) := fun p hp => (s5 p hp).2.2.2 j (Nat.le_refl _) hj
        have nxt : ∀ k, j + 1 ≤ k → k < B.length → ltL (bk B j) (bk B k) := fun k k1 k2 => wB.2 j k (by omega) k2
        have ai : ∀ k, i ≤ k → k < A.length → ltL (bk B j) (bk A k) := by
          intro k k1 k2
          have y := hn (by omega)
          by_cases e : k = i
          · rw [e]; exact y
          · exact ltL_tr y (wA.2 i k (by omega) k2)
        have na : ¬ (i < A.length ∧ nI (bk A i).1 = nI (bk B j).1 ∧ nI (bk A i).2.1 = nI (bk B j).2.1) := by
          rintro ⟨z1, z2, z3⟩
          have wa := wA.1 i z1
          have wa1 := wa.1; have wa2 := wa.2.1
          have q1 := (nI_inj (by omega) (by omega)).mp z2
          have q2 := (nI_inj (by omega) (by omega)).mp z3
          have := hn z1
          unfold ltL at this; omega
        rw [mX2_merge_85, if_pos rfl, ckI (by omega) (by omega), nI_cl (by omega), (b5 j hj).1, mX2_merge_109, if_pos rfl, ckI (by omega) (by omega), nI_cl (by omega), (b5 j hj).2.1, mX2_merge_133, m_isAt hA (by omega), decide_eq_false na, Option.bind_some, if_pos (show bz false = 0 from rfl), m_isAt hB (by omega), decide_eq_true (show j < B.length ∧ nI (bk B j).1 = nI (bk B j).1 ∧ nI (bk B j).2.1 = nI (bk B j).2.1 from ⟨hj, rfl, rfl⟩), Option.bind_some, if_neg (show ¬ bz true = 0 from one_ne), nmd, nI_1]
        exact last (bk B j) i (j + 1) (by omega) (by omega) (by omega) (fun k k1 k2 => by omega) (fun k k1 k2 => by rw [show k = j by omega]; exact ⟨rfl, rfl⟩) ai nxt lt ⟨w1, w2, by show 0 ≤ 16; omega, w.2.2.2⟩
      have t39 : ∃ M' T', mX2_merge_39 (mX2_merge_13 f) M 26 lA lB (nI how) (nI i) (nI j) (nI T.length) = some M' ∧ Off 26 4 M M' ∧ LB M' 26 T' ∧ mgS how A B T' A.length B.length := by
        rw [mX2_merge_39, b3]
        by_cases cj : j < B.length
        · rw [if_neg (nI_ge cj (by omega)), a3]
          by_cases ci : i < A.length
          · have w := wA.1 i ci
            rw [if_neg (nI_ge ci (by omega)), ckI (by omega) (by omega), ckI (by omega) (by omega), nI_cl (by omega), (a5 i ci).1, (a5 i ci).2.1, m_isAhead hB cj (wB.1 j cj) w.1 w.2.1, Option.bind_some]
            by_cases cc : ltK (bk B j) (bk A i).1 (bk A i).2.1
            · rw [dB_t cc, if_neg (show ¬ bz true = 0 from one_ne)]
              exact turnB cj (fun _ => cc)
            · rw [dB_f cc, if_pos (show bz false = 0 from rfl)]
              exact turnA ci (fun _ => cc)
          · rw [if_pos (nI_le (by omega) (by omega))]
            exact turnB cj (fun z => absurd z ci)
        · rw [if_pos (nI_le (by omega) (by omega))]
          exact turnA (by omega) (fun z => absurd z cj)
      rw [a3]
      by_cases ci : i < A.length
      · rw [if_pos (nI_lt ci (by omega))]; exact t39
      · rw [if_neg (nI_nlt (by omega) (by omega)), b3, if_neg (nI_ge (show j < B.length by omega) (by omega))]; exact t39
theorem m_merge {M : gMem} {how lA lB : Nat} (hh : how ≤ 2) {A B : List L3} (wA : wfB A) (wB : wfB B) (hlA : lA + 4 ≤ 26) (hlB : lB + 4 ≤ 26) (h1 : A.length ≤ 64) (h2 : B.length ≤ 64) (hA : LB M lA A) (hB : LB M lB B) (h26 : ∃ T, LB M 26 T) : ∃ M' T, mX2_merge M 26 lA lB (nI how) = some M' ∧ Off 26 4 M M' ∧ LB M' 26 T ∧ wfB T ∧ T.length ≤ 128 ∧ leads T = mixF how A B := by
  have hfu := FU_big
  obtain ⟨T0, hT0⟩ := h26
  obtain ⟨M1, e1, e2, e3⟩ := m_clear hT0
  rw [mX2_merge, e1, Option.bind_some]
  obtain ⟨M2, T, r1, r2, r3, r4⟩ := m_merge_loop hh wA wB hlA hlB (by omega) FU 0 0 M1 [] (by omega) (hA.off e2 (by omega)) (hB.off e2 (by omega)) e3 ⟨Nat.zero_le _, Nat.zero_le _, Nat.le_refl _, by simp, fun p hp => by simp at hp, fun k hk => by omega, fun k hk => by omega⟩
  obtain ⟨s1, s2, s3, s4, s5, s6, s7⟩ := r4
  have wT : wfB T := wfB_of (fun q hq => (s5 q hq).1) s4
  exact ⟨M2, T, r1, e2.tr r2, r3, wT, by omega, merged hh wA wB wT s6 s7 (fun q hq => (s5 q hq).2.1)⟩
