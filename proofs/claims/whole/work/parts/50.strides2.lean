/-! strides: the class -/
theorem wf_mono {B : List L3} (hw : wfB B) {i j : Nat} (h : i ≤ j) (hj : j < B.length) : (bk B i).1 ≤ (bk B j).1 := by
  by_cases e : i = j
  · rw [e]; exact Nat.le_refl _
  · have := hw.2 i j (by omega) hj
    unfold ltL at this; omega
def isN (B : List L3) (m d p : Nat) : Prop := ∃ j, j < m ∧ d < (bk B j).2.1 ∧ pre (bk B j).1 d = p
theorem isN_succ {B : List L3} {m d p : Nat} : isN B (m + 1) d p ↔ isN B m d p ∨ (d < (bk B m).2.1 ∧ pre (bk B m).1 d = p) := by
  unfold isN
  constructor
  · rintro ⟨j, h1, h2⟩
    by_cases e : j = m
    · subst e; exact Or.inr h2
    · exact Or.inl ⟨j, by omega, h2⟩
  · rintro (⟨j, h1, h2⟩ | h)
    · exact ⟨j, by omega, h2⟩
    · exact ⟨m, by omega, h⟩
theorem m_nodesAt_loop {M : gMem} {l : Nat} {B : List L3} (h : LB M l B) (hw : wfB B) {d : Nat} (hd : d ≤ 32) : ∀ f i (L : List Nat) (x3 : Int32), i ≤ B.length → B.length - i < f → L.Nodup → L.length ≤ i → (∀ p, p ∈ L ↔ isN B i d p) → (L.length ≠ 0 → ∃ z, z ∈ L ∧ x3 = nI z ∧ ∀ p, p ∈ L → p ≤ z) → ∃ L' : List Nat, mX4_nodesAt_7 f M l (nI d) (nI L.length) x3 (nI i) = some (nI L'.length) ∧ L'.Nodup ∧ L'.length ≤ B.length ∧ ∀ p, p ∈ L' ↔ isN B B.length d p := by
  obtain ⟨h1, h2, h3, h4, h5⟩ := id h
  intro f
  induction f with
  | zero => intro i L x3 _ h; omega
  | succ f ih =>
    intro i L x3 hi hf nd ll hm hz
    rw [mX4_nodesAt_7, h3]
    by_cases z : i < B.length
    · have w := hw.1 i z
      have w1 := w.1; have w2 := w.2.1
      obtain ⟨e1, e2, e3⟩ := h5 i z
      rw [if_neg (nI_ge z (by omega)), ckI (by omega) (by omega), m_mask hd, Option.bind_some, nI_cl (by omega), e1, and_mask w1 hd, nmd, ckI (by omega) (by omega), e2]
      change ∃ L' : List Nat, (if nI (bk B i).2.1 ≤ nI d then _ else (if nI L.length = 0 then (nmd (nI L.length + (1 : Int32)) fun y9 => nmd (nI i + (1 : Int32)) fun y10 => mX4_nodesAt_7 f M l (nI d) y9 (nI (pre (bk B i).1 d)) y10) else (if nI (pre (bk B i).1 d) = x3 then _ else _))) = _ ∧ _
      have skip : (¬ (d < (bk B i).2.1) ∨ pre (bk B i).1 d ∈ L) → (∀ p, p ∈ L ↔ isN B (i + 1) d p) := by
        intro c p
        rw [isN_succ, ← hm p]
        constructor
        · exact Or.inl
        · rintro (q | ⟨q1, q2⟩)
          · exact q
          · rcases c with c | c
            · exact absurd q1 c
            · exact q2 ▸ c
      have add : d < (bk B i).2.1 → pre (bk B i).1 d ∉ L → ∃ L' : List Nat, mX4_nodesAt_7 f M l (nI d) (nI (L.length + 1)) (nI (pre (bk B i).1 d)) (nI (i + 1)) = some (nI L'.length) ∧ L'.Nodup ∧ L'.length ≤ B.length ∧ ∀ p, p ∈ L' ↔ isN B B.length d p := by
        intro c1 c2
        have ln : (L ++ [pre (bk B i).1 d]).length = L.length + 1 := by rw [List.length_append]; rfl
        have := ih (i + 1) (L ++ [pre (bk B i).1 d]) (nI (pre (bk B i).1 d)) (by omega) (by omega) (List.nodup_append.mpr ⟨nd, by simp, fun a ha b hb => by
          have : b = pre (bk B i).1 d := by simpa using hb
          exact fun e => c2 (this ▸ e ▸ ha)⟩) (by omega) (fun p => by
          rw [isN_succ, ← hm p, List.mem_append, List.mem_singleton]
          constructor
          · rintro (q | q)
            · exact Or.inl q
            · exact Or.inr ⟨c1, q.symm⟩
          · rintro (q | q)
            · exact Or.inl q
            · exact Or.inr q.2.symm) (fun _ => ⟨pre (bk B i).1 d, by simp, rfl, fun p hp => by
          rcases List.mem_append.mp hp with q | q
          · obtain ⟨j, j1, j2, j3⟩ := (hm p).mp q
            rw [← j3]
            exact pre_le (wf_mono hw (by omega) z)
          · rw [List.mem_singleton.mp q]; exact Nat.le_refl _⟩)
        rw [ln] at this
        exact this
      by_cases c : d < (bk B i).2.1
      · rw [if_neg (nI_ge c (by omega))]
        by_cases c0 : L.length = 0
        · rw [if_pos (by rw [c0]; rfl), nmd, nmd, nI_1, nI_1]
          exact add c (by rw [List.length_eq_zero_iff.mp c0]; simp)
        · rw [if_neg (nI_ne0 (by omega) (by omega))]
          obtain ⟨y, y1, y2, y3⟩ := hz c0
          obtain ⟨j, j1, j2, j3⟩ := (hm y).mp y1
          have jm := wf_mono hw (show j ≤ i by omega) z
          have yl : y < 4294967296 := by rw [← j3]; exact pre_lt' (by omega)
          have pl := pre_lt' (n := d) w1
          by_cases c3 : pre (bk B i).1 d = y
          · rw [if_pos (by rw [y2, c3]), nmd, nI_1]
            exact ih (i + 1) L x3 (by omega) (by omega) nd (by omega) (skip (Or.inr (c3 ▸ y1))) hz
          · rw [if_neg (by rw [y2]; exact fun q => c3 ((nI_inj pl yl).mp q)), nmd, nmd, nI_1, nI_1]
            refine add c (fun q => c3 (Nat.le_antisymm (y3 _ q) ?_))
            rw [← j3]; exact pre_le jm
      · rw [if_pos (nI_le (by omega) (by omega)), nmd, nI_1]
        exact ih (i + 1) L x3 (by omega) (by omega) nd (by omega) (skip (Or.inl c)) hz
    · have ei : i = B.length := by omega
      rw [if_pos (nI_le (by omega) (by omega))]
      exact ⟨L, rfl, nd, by omega, ei ▸ hm⟩
theorem m_nodesAt {M : gMem} {l : Nat} {B : List L3} (h : LB M l B) (hw : wfB B) {d : Nat} (hd : d ≤ 32) : ∃ L : List Nat, mX4_nodesAt M l (nI d) = some (nI L.length) ∧ L.Nodup ∧ L.length ≤ B.length ∧ ∀ p, p ∈ L ↔ isN B B.length d p := by
  have hfu := FU_big
  have h1 := h.1
  have h2 := h.2.1
  exact m_nodesAt_loop h hw hd FU 0 [] 0 (by omega) (by omega) (by simp) (by simp) (fun p => by
    constructor
    · intro q; simp at q
    · rintro ⟨j, j1, _⟩; omega) (fun q => absurd rfl q)
def tagL (d : Nat) (L : List Nat) : List P2 := L.map (fun p => (p, d))
theorem tagL_mem {d : Nat} {L : List Nat} {q : P2} : q ∈ tagL d L ↔ q.2 = d ∧ q.1 ∈ L := by
  unfold tagL
  rw [List.mem_map]
  constructor
  · rintro ⟨p, h1, h2⟩; subst h2; exact ⟨rfl, h1⟩
  · rintro ⟨h1, h2⟩; exact ⟨q.1, h2, Prod.ext rfl h1.symm⟩
theorem tagL_nd {d : Nat} {L : List Nat} (h : L.Nodup) : (tagL d L).Nodup := by
  unfold tagL
  refine List.pairwise_map.mpr (h.imp ?_)
  intro a b ne e
  exact ne (congrArg Prod.fst e)
theorem app_nd {S T : List P2} (h1 : S.Nodup) (h2 : T.Nodup) (h : ∀ q, q ∈ S → q ∉ T) : (S ++ T).Nodup :=
  List.nodup_append.mpr ⟨h1, h2, fun a ha b hb e => h a ha (e ▸ hb)⟩
theorem nodes_len {B : List L3} (hw : wfB B) {S : List P2} (nd : S.Nodup) (hm : ∀ q, q ∈ S ↔ chS B B.length 0 q) {L1 L2 L3 L4 L5 : List Nat} (n1 : L1.Nodup) (n2 : L2.Nodup) (n3 : L3.Nodup) (n4 : L4.Nodup) (n5 : L5.Nodup) (m1 : ∀ p, p ∈ L1 ↔ isN B B.length 6 p) (m2 : ∀ p, p ∈ L2 ↔ isN B B.length 12 p) (m3 : ∀ p, p ∈ L3 ↔ isN B B.length 18 p) (m4 : ∀ p, p ∈ L4 ↔ isN B B.length 24 p) (m5 : ∀ p, p ∈ L5 ↔ isN B B.length 30 p) : S.length = 1 + L1.length + L2.length + L3.length + L4.length + L5.length := by
  have key : S.length = ((0, 0) :: (tagL 6 L1 ++ (tagL 12 L2 ++ (tagL 18 L3 ++ (tagL 24 L4 ++ tagL 30 L5))))).length := by
    refine nd_eq nd ?_ ?_
    · refine List.nodup_cons.mpr ⟨?_, app_nd (tagL_nd n1) (app_nd (tagL_nd n2) (app_nd (tagL_nd n3) (app_nd (tagL_nd n4) (tagL_nd n5) ?_) ?_) ?_) ?_⟩
      · intro q
        simp only [List.mem_append, tagL_mem] at q
        omega
      all_goals
        intro q hq hr
        simp only [List.mem_append, tagL_mem] at hq hr
        omega
    · intro q
      rw [hm q, List.mem_cons]
      simp only [List.mem_append, tagL_mem]
      rw [m1, m2, m3, m4, m5]
      unfold chS
      constructor
      · rintro (z | ⟨j, u, j1, u1, u2, z⟩ | ⟨u, z⟩)
        · exact Or.inl z
        · have w := (hw.1 j j1).2.1
          have zz : isN B B.length (6 * u) q.1 := ⟨j, j1, u2, by rw [z]⟩
          have z2 : q.2 = 6 * u := by rw [z]
          rcases (show u = 1 ∨ u = 2 ∨ u = 3 ∨ u = 4 ∨ u = 5 by omega) with rfl | rfl | rfl | rfl | rfl
          · exact Or.inr (Or.inl ⟨z2, zz⟩)
          · exact Or.inr (Or.inr (Or.inl ⟨z2, zz⟩))
          · exact Or.inr (Or.inr (Or.inr (Or.inl ⟨z2, zz⟩)))
          · exact Or.inr (Or.inr (Or.inr (Or.inr (Or.inl ⟨z2, zz⟩))))
          · exact Or.inr (Or.inr (Or.inr (Or.inr (Or.inr ⟨z2, zz⟩))))
        · omega
      · have back : ∀ u, 1 ≤ u → q.2 = 6 * u → isN B B.length (6 * u) q.1 → ∃ j u, j < B.length ∧ 1 ≤ u ∧ 6 * u < (bk B j).2.1 ∧ q = (pre (bk B j).1 (6 * u), 6 * u) := by
          rintro u u1 u2 ⟨j, j1, j2, j3⟩
          exact ⟨j, u, j1, u1, j2, Prod.ext j3.symm u2⟩
        rintro (z | z | z | z | z | z)
        · exact Or.inl z
        · exact Or.inr (Or.inl (back 1 (by omega) z.1 z.2))
        · exact Or.inr (Or.inl (back 2 (by omega) z.1 z.2))
        · exact Or.inr (Or.inl (back 3 (by omega) z.1 z.2))
        · exact Or.inr (Or.inl (back 4 (by omega) z.1 z.2))
        · exact Or.inr (Or.inl (back 5 (by omega) z.1 z.2))
  rw [key]
  simp only [List.length_cons, List.length_append, tagL, List.length_map]
  omega
theorem m_nodesOf {M : gMem} {l : Nat} {B : List L3} (h : LB M l B) (hw : wfB B) {S : List P2} (nd : S.Nodup) (hm : ∀ q, q ∈ S ↔ chS B B.length 0 q) : mX4_nodesOf M l = some (nI S.length) := by
  obtain ⟨L1, a1, n1, l1, m1⟩ := m_nodesAt h hw (d := 6) (by omega)
  obtain ⟨L2, a2, n2, l2, m2⟩ := m_nodesAt h hw (d := 12) (by omega)
  obtain ⟨L3, a3, n3, l3, m3⟩ := m_nodesAt h hw (d := 18) (by omega)
  obtain ⟨L4, a4, n4, l4, m4⟩ := m_nodesAt h hw (d := 24) (by omega)
  obtain ⟨L5, a5, n5, l5, m5⟩ := m_nodesAt h hw (d := 30) (by omega)
  have key := nodes_len hw nd hm n1 n2 n3 n4 n5 m1 m2 m3 m4 m5
  have hfu : FU = (FU - 6) + 1 + 1 + 1 + 1 + 1 + 1 := by decide
  rw [mX4_nodesOf, hfu, show (6 : Int32) = nI 6 from rfl, show (1 : Int32) = nI 1 from rfl]
  have st : ∀ f (d s : Nat) (L : List Nat), d ≤ 30 → mX4_nodesAt M l (nI d) = some (nI L.length) → mX4_nodesOf_5 (f + 1) M l (nI s) (nI d) = mX4_nodesOf_5 f M l (nI (s + L.length)) (nI (d + 6)) := by
    intro f d s L hd e
    rw [mX4_nodesOf_5, if_neg (show ¬ (30 : Int32) < nI d from nI_nlt (a := 30) hd (by omega)), e, Option.bind_some, nmd, nmd, nI_add, show (6 : Int32) = nI 6 from rfl, nI_add]
  rw [st _ 6 1 L1 (by omega) a1, st _ 12 _ L2 (by omega) a2, st _ 18 _ L3 (by omega) a3, st _ 24 _ L4 (by omega) a4, st _ 30 _ L5 (by omega) a5, mX4_nodesOf_5, if_pos (show (30 : Int32) < nI 36 by decide), ← key]
def isD (B : List L3) (m t : Nat) : Prop := t ≤ 5 ∧ (t = 0 ∨ ∃ j, j < m ∧ 6 * t < (bk B j).2.1) ∧ ∀ j, j < m → t = 5 ∨ (bk B j).2.1 ≤ 6 * t + 6
theorem m_deepest_in {M : gMem} {l : Nat} {B : List L3} (h : LB M l B) (hw : wfB B) {i : Nat} (hi : i < B.length) (k4 : gMem → Nat → Int32 → Int32 → Option Int32) : ∀ f t, isD B i t ∨ (t ≤ 5 ∧ (t = 0 ∨ ∃ j, j < i + 1 ∧ 6 * t < (bk B j).2.1) ∧ ∀ j, j < i → t = 5 ∨ (bk B j).2.1 ≤ 6 * t + 6) → 5 - t < f → ∃ t', mX4_deepest_12 k4 f M l (nI (6 * t)) (nI i) = k4 M l (nI (6 * t')) (nI (i + 1)) ∧ isD B (i + 1) t' := by
  obtain ⟨h1, h2, h3, h4, h5⟩ := id h
  have w2 := (hw.1 i hi).2.1
  intro f
  induction f with
  | zero => intro t _ h; omega
  | succ f ih =>
    intro t ht hf
    have ht' : t ≤ 5 ∧ (t = 0 ∨ ∃ j, j < i + 1 ∧ 6 * t < (bk B j).2.1) ∧ ∀ j, j < i → t = 5 ∨ (bk B j).2.1 ≤ 6 * t + 6 := by
      rcases ht with ⟨q1, q2, q3⟩ | q
      · refine ⟨q1, q2.elim Or.inl (fun ⟨j, z⟩ => Or.inr ⟨j, by omega, z.2⟩), q3⟩
      · exact q
    obtain ⟨t1, t2, t3⟩ := ht'
    rw [mX4_deepest_12]
    by_cases c : t = 5
    · subst c
      rw [if_pos (show (30 : Int32) ≤ nI (6 * 5) from by decide), nmd, nI_1]
      exact ⟨5, rfl, by omega, t2, fun j _ => Or.inl rfl⟩
    · rw [if_neg (show ¬ (30 : Int32) ≤ nI (6 * t) from nI_ge (b := 30) (by omega) (by omega)), ckI (by omega) (by omega), nI_cl (by omega), (h5 i hi).2.1, show (6 : Int32) = nI 6 from rfl, nI_add]
      by_cases c2 : (bk B i).2.1 ≤ 6 * t + 6
      · rw [if_pos (nI_le c2 (by omega)), nmd, nI_1]
        refine ⟨t, rfl, t1, t2, fun j hj => ?_⟩
        by_cases e : j = i
        · subst e; exact Or.inr c2
        · exact t3 j (by omega)
      · rw [if_neg (nI_ge (by omega) (by omega)), nmd, show 6 * t + 6 = 6 * (t + 1) by omega]
        refine ih (t + 1) (Or.inr ⟨by omega, Or.inr ⟨i, by omega, by omega⟩, fun j hj => ?_⟩) (by omega)
        rcases t3 j hj with q | q
        · exact absurd q c
        · exact Or.inr (by omega)
theorem m_deepest {M : gMem} {l : Nat} {B : List L3} (h : LB M l B) (hw : wfB B) : ∃ t, mX4_deepest M l = some (nI (6 * t)) ∧ isD B B.length t := by
  have hfu := FU_big
  obtain ⟨h1, h2, h3, h4, h5⟩ := id h
  have lp : ∀ f i t, i ≤ B.length → B.length - i < f → isD B i t → ∃ t', mX4_deepest_4 f M l (nI (6 * t)) (nI i) = some (nI (6 * t')) ∧ isD B B.length t' := by
    intro f
    induction f with
    | zero => intro i t _ h; omega
    | succ f ih =>
      intro i t hi hf hd
      rw [mX4_deepest_4, h3]
      by_cases z : i < B.length
      · rw [if_neg (nI_ge z (by omega))]
        obtain ⟨t', e1, e2⟩ := m_deepest_in h hw z (mX4_deepest_4 f) FU t (Or.inl hd) (by omega)
        rw [e1]
        exact ih (i + 1) t' (by omega) (by omega) e2
      · rw [if_pos (nI_le (by omega) (by omega))]
        have ei : i = B.length := by omega
        exact ⟨t, rfl, ei ▸ hd⟩
  exact lp FU 0 0 (by omega) (by omega) ⟨by omega, Or.inl rfl, fun j hj => by omega⟩
theorem m_down {t : Nat} (h : t ≤ 5) : mX4_stepsDownTo (nI (6 * t)) = some (nI (t + 1)) := by
  rcases (show t = 0 ∨ t = 1 ∨ t = 2 ∨ t = 3 ∨ t = 4 ∨ t = 5 by omega) with rfl | rfl | rfl | rfl | rfl | rfl <;> decide
theorem m_firstDeepest {M : gMem} {l : Nat} {B : List L3} (h : LB M l B) (hw : wfB B) : ∃ t p, mX4_firstDeepest M l = some (lN p) ∧ isD B B.length t ∧ ((p = 0 ∧ ∀ j, j < B.length → (bk B j).2.1 ≤ 6 * t) ∨ ∃ i, i < B.length ∧ 6 * t < (bk B i).2.1 ∧ p = pre (bk B i).1 (6 * t) ∧ ∀ j, j < i → (bk B j).2.1 ≤ 6 * t) := by
  have hfu := FU_big
  obtain ⟨h1, h2, h3, h4, h5⟩ := id h
  obtain ⟨t, e1, e2⟩ := m_deepest h hw
  have t5 := e2.1
  rw [mX4_firstDeepest, e1, Option.bind_some]
  have lp : ∀ f i, i ≤ B.length → B.length - i < f → (∀ j, j < i → (bk B j).2.1 ≤ 6 * t) → ∃ p, mX4_firstDeepest_7 f M l (nI (6 * t)) (nI i) = some (lN p) ∧ ((p = 0 ∧ ∀ j, j < B.length → (bk B j).2.1 ≤ 6 * t) ∨ ∃ i, i < B.length ∧ 6 * t < (bk B i).2.1 ∧ p = pre (bk B i).1 (6 * t) ∧ ∀ j, j < i → (bk B j).2.1 ≤ 6 * t) := by
    intro f
    induction f with
    | zero => intro i _ h; omega
    | succ f ih =>
      intro i hi hf hj
      rw [mX4_firstDeepest_7, h3]
      by_cases z : i < B.length
      · have w := hw.1 i z
        have w1 := w.1; have w2 := w.2.1
        rw [if_neg (nI_ge z (by omega)), ckI (by omega) (by omega), nI_cl (by omega), (h5 i z).2.1]
        by_cases c : 6 * t < (bk B i).2.1
        · rw [if_neg (nI_ge c (by omega)), ckI (by omega) (by omega), m_mask (by omega), Option.bind_some, (h5 i z).1, and_mask w1 (by omega), m_wide (pre_lt w1), Option.bind_some]
          exact ⟨_, rfl, Or.inr ⟨i, z, c, rfl, hj⟩⟩
        · rw [if_pos (nI_le (by omega) (by omega)), nmd, nI_1]
          exact ih (i + 1) (by omega) (by omega) (fun j j1 => by
            by_cases e : j = i
            · subst e; omega
            · exact hj j (by omega))
      · rw [if_pos (nI_le (by omega) (by omega))]
        have ei : i = B.length := by omega
        exact ⟨0, rfl, Or.inl ⟨rfl, ei ▸ hj⟩⟩
  obtain ⟨p, p1, p2⟩ := lp FU 0 (by omega) (by omega) (fun j hj => by omega)
  exact ⟨t, p, p1, e2, p2⟩
def hN (B : List L3) (x d : Nat) : Prop := isN B B.length d (pre x d)
theorem m_hasNode {M : gMem} {l : Nat} {B : List L3} (h : LB M l B) (hw : wfB B) {x d : Nat} (hx : x < 4294967296) (hd : d ≤ 32) : mX4_hasNode M l (nI (pre x d)) (nI d) = some (bz (dB (hN B x d))) := by
  have hfu := FU_big
  obtain ⟨h1, h2, h3, h4, h5⟩ := id h
  have lp : ∀ f i, i ≤ B.length → B.length - i < f → (∀ j, j < i → ¬ (d < (bk B j).2.1 ∧ pre (bk B j).1 d = pre x d)) → mX4_hasNode_2 f M l (nI (pre x d)) (nI d) (nI i) = some (bz (dB (hN B x d))) := by
    intro f
    induction f with
    | zero => intro i _ h; omega
    | succ f ih =>
      intro i hi hf hj
      rw [mX4_hasNode_2, h3]
      by_cases z : i < B.length
      · have w := hw.1 i z
        have w1 := w.1; have w2 := w.2.1
        have nx : ¬ (d < (bk B i).2.1 ∧ pre (bk B i).1 d = pre x d) → mX4_hasNode_2 f M l (nI (pre x d)) (nI d) (nI (i + 1)) = some (bz (dB (hN B x d))) := fun c => ih (i + 1) (by omega) (by omega) (fun j j1 => by
          by_cases e : j = i
          · rw [e]; exact c
          · exact hj j (by omega))
        rw [if_neg (nI_ge z (by omega)), ckI (by omega) (by omega), nI_cl (by omega), (h5 i z).2.1]
        by_cases c : d < (bk B i).2.1
        · rw [if_neg (nI_ge c (by omega)), ckI (by omega) (by omega), (h5 i z).1, m_begins w1 (pre_lt' hx) hd, Option.bind_some]
          by_cases c2 : (bk B i).1 / 2 ^ (32 - d) * 2 ^ (32 - d) = pre x d
          · rw [if_pos c2, if_neg one_ne, dB_t (show hN B x d from ⟨i, z, c, c2⟩)]; rfl
          · rw [if_neg c2, if_pos rfl, nmd, nI_1]
            exact nx (fun q => c2 q.2)
        · rw [if_pos (nI_le (by omega) (by omega)), nmd, nI_1]
          exact nx (fun q => c q.1)
      · rw [if_pos (nI_le (by omega) (by omega)), dB_f (show ¬ hN B x d from fun ⟨j, j1, j2⟩ => hj j (by omega) j2)]; rfl
  exact lp FU 0 (by omega) (by omega) (fun j hj => by omega)
noncomputable def stN (B : List L3) (x : Nat) : Nat → Nat
  | 0 => 1
  | t + 1 => if dB (hN B x (6 * (t + 1))) = true then t + 2 else stN B x t
theorem m_stepsOf {M : gMem} {l : Nat} {B : List L3} (h : LB M l B) (hw : wfB B) {x : Nat} (hx : x < 4294967296) : mX4_stepsOf M l (nI x) = some (nI (stN B x 5)) := by
  have hfu := FU_big
  have lp : ∀ f t, t ≤ 5 → t < f → mX4_stepsOf_3 f M l (nI x) (nI (6 * t)) = some (nI (stN B x t)) := by
    intro f
    induction f with
    | zero => intro t _ h; omega
    | succ f ih =>
      intro t ht hf
      rw [mX4_stepsOf_3]
      by_cases z : t = 0
      · subst z; rw [if_pos (show nI (6 * 0) ≤ 0 by decide)]; rfl
      · obtain ⟨u, rfl⟩ : ∃ u, t = u + 1 := ⟨t - 1, by omega⟩
        rw [if_neg (nI_nle (by omega) (by omega)), m_mask (by omega), Option.bind_some, and_mask hx (by omega)]
        have hh := m_hasNode h hw hx (d := 6 * (u + 1)) (by omega)
        unfold pre at hh
        rw [hh, Option.bind_some, stN]
        cases q : dB (hN B x (6 * (u + 1))) with
        | true => rw [if_neg (show ¬ bz true = 0 from one_ne), m_down (by omega), Option.bind_some, if_pos rfl]
        | false =>
          rw [if_pos (show bz false = 0 from rfl), nmd, show (-6 : Int32) = -(nI 6) from rfl, ← Int32.sub_eq_add_neg, pk_sub (by omega), show 6 * (u + 1) - 6 = 6 * u by omega, ih u (by omega) (by omega), if_neg (by simp)]
  exact lp FU 5 (by omega) (by omega)
