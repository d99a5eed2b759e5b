/-! set -/
theorem m_endOf {M : gMem} {l : Nat} {B : List L3} (h : LB M l B) (hw : wfB B) {f a n : Nat} (hf : f ≤ B.length) (ha : a < 4294967296) (hn : n ≤ 32) : ∃ t, mX2_endOf M l (nI f) (nI a) (nI n) = some (nI t) ∧ f ≤ t ∧ t ≤ B.length ∧ (∀ i, f ≤ i → i < t → (bk B i).1 / 2 ^ (32 - n) * 2 ^ (32 - n) = a) ∧ (t < B.length → (bk B t).1 / 2 ^ (32 - n) * 2 ^ (32 - n) ≠ a) := by
  have hfu := FU_big
  obtain ⟨h1, h2, h3, h4, h5⟩ := id h
  have lp : ∀ fu i, f ≤ i → i ≤ B.length → B.length - i < fu → (∀ j, f ≤ j → j < i → (bk B j).1 / 2 ^ (32 - n) * 2 ^ (32 - n) = a) → ∃ t, mX2_endOf_7 fu M l (nI a) (nI n) (nI i) = some (nI t) ∧ f ≤ t ∧ t ≤ B.length ∧ (∀ i, f ≤ i → i < t → (bk B i).1 / 2 ^ (32 - n) * 2 ^ (32 - n) = a) ∧ (t < B.length → (bk B t).1 / 2 ^ (32 - n) * 2 ^ (32 - n) ≠ a) := by
    intro fu
    induction fu with
    | zero => intro i _ _ h; omega
    | succ fu ih =>
      intro i hi hi2 hf hj
      rw [mX2_endOf_7, h3]
      by_cases z : i < B.length
      · have w := (hw.1 i z).1
        rw [if_neg (nI_ge z (by omega)), ckI (by omega) (by omega), nI_cl (by omega), (h5 i z).1, m_begins w ha hn, Option.bind_some]
        by_cases c : (bk B i).1 / 2 ^ (32 - n) * 2 ^ (32 - n) = a
        · rw [if_pos c, if_neg one_ne, nmd, nI_1]
          exact ih (i + 1) (by omega) (by omega) (by omega) (fun j j1 j2 => by
            by_cases e : j = i
            · rw [e]; exact c
            · exact hj j j1 (by omega))
        · rw [if_neg c, if_pos rfl]
          exact ⟨i, rfl, hi, hi2, hj, fun _ => c⟩
      · rw [if_pos (nI_le (by omega) (by omega))]
        exact ⟨B.length, rfl, by omega, Nat.le_refl _, fun j j1 j2 => hj j j1 (by omega), fun q => by omega⟩
  rw [mX2_endOf, if_neg (nI_pos (by omega)), nmd]
  exact lp FU f (Nat.le_refl _) hf (by omega) (fun j j1 j2 => by omega)
/-- the LINES of a block, and what comes to it -/
theorem block_lead {B : List L3} (hw : wfB B) {a k f t : Nat} (hk : k ≤ 32) (hal : a % 2 ^ k = 0) (hft : f ≤ t) (ht : t ≤ B.length) (f1 : ∀ i, i < f → ltK (bk B i) a (32 - k)) (f2 : ∀ i, f ≤ i → i < B.length → ¬ ltK (bk B i) a (32 - k)) (t1 : ∀ i, f ≤ i → i < t → (bk B i).1 / 2 ^ k * 2 ^ k = a) (t2 : t < B.length → (bk B t).1 / 2 ^ k * 2 ^ k ≠ a) : InB B f t a k ∧ ∀ x, a ≤ x → x < a + 2 ^ k → leads B x = leadR B f t (goalOf B (holder B f a)) x := by
  have pos := pw_pos k
  have inb : InB B f t a k := by
    refine ⟨ht, fun i i1 i2 => ?_⟩
    have w := hw.1 i (by omega)
    have w2 := w.2.1
    have d := div_in (bk B i).1 k
    rw [t1 i i1 i2] at d
    have n := f2 i i1 (by omega)
    have kk : 32 - (bk B i).2.1 ≤ k := by
      refine Classical.byContradiction fun z => ?_
      by_cases e : (bk B i).1 = a
      · exact n (Or.inr ⟨e, by omega⟩)
      · have := al_le hal (mod_pw (show k ≤ 32 - (bk B i).2.1 by omega) w.2.2.2) (show a < (bk B i).1 by omega)
        omega
    exact ⟨d.1, en_al w kk (show (a + 2 ^ k) % 2 ^ k = 0 by rw [Nat.add_mod_right]; exact hal) (by omega)⟩
  have aft : ∀ i, t ≤ i → i < B.length → a + 2 ^ k ≤ (bk B i).1 := by
    intro i i1 i2
    have m := wf_mono hw i1 i2
    have n := f2 t hft (by omega)
    have ge : a ≤ (bk B t).1 := by
      refine Classical.byContradiction fun z => n (Or.inl (by omega))
    have : a + 2 ^ k ≤ (bk B t).1 := by
      refine Classical.byContradiction fun z => t2 (by omega) (div_al hal ge (by omega))
    omega
  have bef : ∀ i, i < f → ∀ x, a ≤ x → x < a + 2 ^ k → (mt (bk B i) x = true ↔ mt (bk B i) a = true) := by
    intro i hi
    have w := hw.1 i (by omega)
    have w2 := w.2.1
    have l := f1 i hi
    have key : ∀ y, a ≤ y → y < a + 2 ^ k → mt (bk B i) y = true → (bk B i).1 ≤ a ∧ a + 2 ^ k ≤ en (bk B i) := by
      intro y y1 y2 h
      have r := (mt_range w y).mp h
      have kk : k < 32 - (bk B i).2.1 := by
        refine Classical.byContradiction fun z => ?_
        have ge : a ≤ (bk B i).1 := by
          refine Classical.byContradiction fun q => ?_
          have := en_al w (show 32 - (bk B i).2.1 ≤ k by omega) hal (by omega)
          omega
        unfold ltK at l
        omega
      have al2 : en (bk B i) % 2 ^ k = 0 := by
        refine mod_pw (show k ≤ 32 - (bk B i).2.1 by omega) ?_
        unfold en
        rw [Nat.add_mod_right]; exact w.2.2.2
      have al1 : (bk B i).1 % 2 ^ k = 0 := mod_pw (show k ≤ 32 - (bk B i).2.1 by omega) w.2.2.2
      refine ⟨?_, al_le hal al2 (by omega)⟩
      refine Classical.byContradiction fun q => ?_
      have := al_le hal al1 (by omega)
      omega
    intro x x1 x2
    constructor
    · intro h
      have := key x x1 x2 h
      exact (mt_range w a).mpr ⟨this.1, by omega⟩
    · intro h
      have := key a (Nat.le_refl _) (by omega) h
      exact (mt_range w x).mpr ⟨by omega, by omega⟩
  refine ⟨inb, fun x x1 x2 => ?_⟩
  have no : ∀ j, t ≤ j → j < B.length → mt (bk B j) x = false := fun j j1 j2 => mt_no1 (hw.1 j j2) (Or.inl (by have := aft j j1 j2; omega))
  rw [leads_R]
  rcases leadR_cases B f t (goalOf B (holder B f a)) x with ⟨i, q1, q2, q3, q4, q5⟩ | ⟨q1, q2⟩
  · rw [q5]
    refine leadR_some (Nat.zero_le _) (by omega) q3 (fun j j1 j2 => ?_)
    by_cases z : j < t
    · exact q4 j j1 z
    · exact no j (by omega) j2
  · rw [q2]
    have no2 : ∀ j, f ≤ j → j < B.length → mt (bk B j) x = false := fun j j1 j2 => by
      by_cases z : j < t
      · exact q1 j j1 z
      · exact no j (by omega) j2
    cases h : holder B f a with
    | none =>
      refine leadR_none (fun j _ j2 => ?_)
      by_cases z : j < f
      · cases y : mt (bk B j) x with
        | false => rfl
        | true =>
          have := lastP_none.mp h j z
          rw [(bef j z x x1 x2).mp y] at this; cases this
      · exact no2 j (by omega) j2
    | some k =>
      obtain ⟨k1, k2, k3⟩ := lastP_some.mp h
      refine leadR_some (Nat.zero_le _) (by omega) ((bef k k1 x x1 x2).mpr k2) (fun j j1 j2 => ?_)
      by_cases z : j < f
      · cases y : mt (bk B j) x with
        | false => rfl
        | true =>
          have := k3 j j1 z
          rw [(bef j z x x1 x2).mp y] at this; cases this
      · exact no2 j (by omega) j2
theorem op_set {MC MR : gMem} (h : Inv MC MR) (x1 x2 x3 : Int32) : ∃ r MC' MR', mX7_set MC x1 x2 x3 = some (r, MC') ∧ mX8_set MR x1 x2 x3 = some (r, MR') ∧ Inv MC' MR' := by
  obtain ⟨bks, hb, h26, h30, hc⟩ := id h
  rw [mX7_set, mX8_set]
  rcases book_cases x1 with ⟨b, h6, rfl, e1, e2⟩ | ⟨e1, e2⟩
  rotate_left
  · rw [e1, e2, Option.bind_some, Option.bind_some, if_pos rfl, if_pos rfl]; exact ⟨_, _, _, rfl, rfl, h⟩
  rw [e1, e2, Option.bind_some, Option.bind_some, if_neg one_ne, if_neg one_ne]
  rcases beg_cases x2 x3 with ⟨a, n, ha, hn, rfl, rfl, hd, e1, e2⟩ | ⟨e1, e2, -⟩
  rotate_left
  · rw [e1, e2, Option.bind_some, Option.bind_some, if_pos rfl, if_pos rfl]; exact ⟨_, _, _, rfl, rfl, h⟩
  rw [e1, e2, Option.bind_some, Option.bind_some, if_neg one_ne, if_neg one_ne]
  have hL := hb.1 b h6
  have hR := hb.2.1 b h6
  have hw := hb.2.2 b h6
  have hln := lnB h6
  have hlen := hR.1
  have top : a + 2 ^ (32 - n) ≤ 4294967296 := al_le hd (mod_pw (show 32 - n ≤ 32 by omega) (show 4294967296 % 2 ^ 32 = 0 by decide)) ha
  obtain ⟨f, ef, f0, f1, f2⟩ := m_placeOf hL hw ha hn
  obtain ⟨t, et, t0, t1, t2, t3⟩ := m_endOf hL hw f0 ha hn
  have eg := m_goalAmong hL hw.1 (x := a) (k := f) ha (by omega)
  rw [show min (bks b).length f = f by omega] at eg
  have nk : 32 - (32 - n) = n := by omega
  obtain ⟨inBl, ld⟩ := block_lead hw (a := a) (k := 32 - n) (by omega) hd t0 t1 (by rw [nk]; exact f1) (by rw [nk]; exact f2) t2 t3
  have c16 : goalOf (bks b) (holder (bks b) f a) ≤ 16 := by
    cases z : holder (bks b) f a with
    | none => exact Nat.le_refl _
    | some k => exact (hw.1 k (by have := holder_lt z; omega)).2.2.1
  rw [ckI (n := 6) h6 (by omega), nI_cl (by omega), ef, Option.bind_some, et, Option.bind_some, eg, Option.bind_some, mX5_plant, nmd]
  have o1 : Off 34 7 MC (sI MC 34 6 0) := sI_Off (by omega)
  obtain ⟨M', e, Ns, g1, g2, g3, g4, g5, g6, _⟩ := m_grow (l := 2 + 4 * b) (by omega) hw 40 (32 - n) (sI MC 34 6 0) f t a (goalOf (bks b) (holder (bks b) f a)) 0 256 (by omega) t0 (hL.off o1 (by omega)) inBl hd top (by omega) c16 (by rw [sI1, if_pos ⟨rfl, rfl⟩]; rfl) ⟨by omega, Or.inl (by omega)⟩ (by omega)
  rw [nk] at g1
  have s40 := g6.1.2.2.2.2.2.2.2
  rw [g1, Option.bind_some, Option.bind_some, mX5_setOfTop, g3, if_neg (nI_nle g4 (by omega)), ck_t (show inb (0 : Int32) 256 = true by decide)]
  have s40' : M'.1 40 ((0 : Int32).toNatClampNeg) = nI (mset (leadR (bks b) f t (goalOf (bks b) (holder (bks b) f a))) (32 - n) a) := s40
  rw [s40', Option.bind_some]
  obtain ⟨MR1, R, k1, k2, k3, k4⟩ := r_makeSpans h6 h6 hR hR hw hw (show 3 ≤ 4 by omega)
  rw [mixF3] at k3
  have k1' : mX8_makeSpans MR 3 (nI b) (nI b) = some MR1 := k1
  have hF : ∀ x, leads (bks b) x ≤ 16 := leads_le hw
  obtain ⟨MR2, j1, j2, j3, j4⟩ := r_makeSets hF k2 k3
  have so := r_setAt hF j2 k3 j4 (p := a) (k := 32 - n) (by omega) top hd
  rw [nk] at so
  rw [k1', Option.bind_some, j1, Option.bind_some, r_number ha, Option.bind_some, so, Option.bind_some, mset_congr (32 - n) a ld]
  exact ⟨_, _, _, rfl, rfl, h.keep (l := 34) (n := 7) (by omega) (by omega) (o1.tr g2) (k4.tr j3)⟩
