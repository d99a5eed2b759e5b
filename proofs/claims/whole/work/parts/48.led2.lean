/-! led: the reference -/
def stp (U V : List L3) (i : Nat) : L3 := if i < U.length then bk U i else bk V (i - U.length)
noncomputable def dvP (U V : List L3) (q : L3) (i : Nat) : Bool := dB (sameB (stp U V i) q)
def dv (U V : List L3) : Option Nat → Int32
  | none => -2
  | some i => if i < U.length then nI (bk U i).2.2 else -1
/-- the reference's rows of STEPS -/
def sts (M : gMem) (U V : List L3) : Prop := ∀ i, i < U.length + V.length → M.1 19 i = (if i < U.length then 1 else 0) ∧ M.2 20 i = lN (stp U V i).1 ∧ M.1 21 i = nI (stp U V i).2.1 ∧ M.1 22 i = nI (stp U V i).2.2 ∧ wfL (stp U V i)
theorem r_done_loop {M : gMem} {U V : List L3} {k : Nat} {q : L3} (h : sts M U V) (hl : U.length + V.length ≤ 128) (hk : k ≤ U.length + V.length) (hq : wfL q) : ∀ f i, i ≤ k → k - i < f → mX8_done_7 f M (nI k) (lN q.1) (nI q.2.1) (dv U V (lastP (dvP U V q) i)) (nI i) = some (dv U V (lastP (dvP U V q) k)) := by
  intro f
  induction f with
  | zero => intro i _ h; omega
  | succ f ih =>
    intro i hi hf
    rw [mX8_done_7]
    by_cases z : i < k
    · have nx := ih (i + 1) (by omega) (by omega)
      rw [lastP] at nx
      obtain ⟨e1, e2, e3, e4, w⟩ := h i (by omega)
      have w1 := w.1; have w2 := w.2.1
      have q1 := hq.1; have q2 := hq.2.1
      rw [if_neg (nI_ge z (by omega)), ckI (n := 128) (by omega) (by omega), nI_cl (by omega), e2]
      by_cases c1 : (stp U V i).1 = q.1
      · rw [if_pos (by rw [c1]), ckI (n := 128) (by omega) (by omega), e3]
        by_cases c2 : (stp U V i).2.1 = q.2.1
        · rw [if_pos (show dvP U V q i = true from dB_t ⟨c1, c2⟩)] at nx
          rw [if_pos (by rw [c2]), ckI (n := 128) (by omega) (by omega), e1]
          by_cases u : i < U.length
          · have es : stp U V i = bk U i := by unfold stp; rw [if_pos u]
            rw [if_pos u, if_pos rfl, ckI (n := 128) (by omega) (by omega), e4, nmd, nmd, nI_1, es]
            have d : dv U V (some i) = nI (bk U i).2.2 := by show (if i < U.length then nI (bk U i).2.2 else -1) = _; rw [if_pos u]
            rw [d] at nx
            exact nx
          · have d : dv U V (some i) = -1 := by show (if i < U.length then nI (bk U i).2.2 else -1) = _; rw [if_neg u]
            rw [d] at nx
            rw [if_neg u, if_neg (by decide), nmd, nI_1]
            exact nx
        · rw [if_neg (show ¬ dvP U V q i = true from fun z => c2 (dB_iff.mp z).2)] at nx
          rw [if_neg (fun z => c2 ((nI_inj (by omega) (by omega)).mp z)), nmd, nI_1]
          exact nx
      · rw [if_neg (show ¬ dvP U V q i = true from fun z => c1 (dB_iff.mp z).1)] at nx
        rw [if_neg (fun z => c1 ((lN_inj (by omega) (by omega)).mp z)), nmd, nI_1]
        exact nx
    · rw [if_pos (nI_le (by omega) (by omega)), show i = k by omega]
theorem r_done {M : gMem} {U V : List L3} {k : Nat} {q : L3} (h : sts M U V) (hl : U.length + V.length ≤ 128) (hk : k ≤ U.length + V.length) (hq : wfL q) : mX8_done M (nI k) (lN q.1) (nI q.2.1) = some (dv U V (lastP (dvP U V q) k)) := by
  have hfu := FU_big
  exact r_done_loop h hl hk hq FU 0 (by omega) (by omega)
theorem mt_same {p q : L3} {x : Nat} (hp : mt p x = true) (h : sameB q p) : mt q x = true := by
  rw [mt_iff] at hp ⊢
  rw [h.2, h.1]; exact hp
theorem same_mt {p q : L3} {x : Nat} (hp : mt p x = true) (hq : mt q x = true) (h : q.2.1 = p.2.1) : sameB q p := by
  rw [mt_iff] at hp hq
  refine ⟨?_, h⟩
  rw [← hp, ← hq, h]
theorem look_some {L : List L3} {m x n j : Nat} : look L m x n = some j ↔ j < m ∧ (mt (bk L j) x = true ∧ (bk L j).2.1 = n) ∧ ∀ i, j < i → i < m → ¬ (mt (bk L i) x = true ∧ (bk L i).2.1 = n) := by
  unfold look
  rw [lastP_some]
  have e : ∀ i, (mt (bk L i) x && decide ((bk L i).2.1 = n)) = true ↔ (mt (bk L i) x = true ∧ (bk L i).2.1 = n) := fun i => by rw [Bool.and_eq_true, decide_eq_true_iff]
  constructor
  · rintro ⟨h1, h2, h3⟩
    refine ⟨h1, (e j).mp h2, fun i i1 i2 q => ?_⟩
    have := h3 i i1 i2
    rw [(e i).mpr q] at this; cases this
  · rintro ⟨h1, h2, h3⟩
    refine ⟨h1, (e j).mpr h2, fun i i1 i2 => Bool.eq_false_iff.mpr (fun q => h3 i i1 i2 ((e i).mp q))⟩
theorem look_none {L : List L3} {m x n : Nat} : look L m x n = none ↔ ∀ i, i < m → ¬ (mt (bk L i) x = true ∧ (bk L i).2.1 = n) := by
  unfold look
  rw [lastP_none]
  have e : ∀ i, (mt (bk L i) x && decide ((bk L i).2.1 = n)) = true ↔ (mt (bk L i) x = true ∧ (bk L i).2.1 = n) := fun i => by rw [Bool.and_eq_true, decide_eq_true_iff]
  constructor
  · intro h i hi q
    have := h i hi
    rw [(e i).mpr q] at this; cases this
  · intro h i hi
    exact Bool.eq_false_iff.mpr (fun q => h i hi ((e i).mp q))
/-- what the reference's 'done' says of one of the first LINES, and what leads there -/
theorem dv_val {S U V : List L3} {k x j : Nat} (hw : wyW (some (S, U, V))) (hk : k ≤ U.length + V.length) (hj : j < S.length) (hm : mt (bk S j) x = true) : (dv U V (lastP (dvP U V (bk S j)) k) = -1 ∧ val S U V k x (bk S j).2.1 = none) ∨ (dv U V (lastP (dvP U V (bk S j)) k) = -2 ∧ val S U V k x (bk S j).2.1 = some (bk S j).2.2) ∨ ∃ g, g ≤ 16 ∧ dv U V (lastP (dvP U V (bk S j)) k) = nI g ∧ val S U V k x (bk S j).2.1 = some g := by
  obtain ⟨wS, wU, wV, l1, l2, l3, dU, dV, dUV, sub⟩ := hw
  cases q : lastP (dvP U V (bk S j)) k with
  | none =>
    right; left
    refine ⟨rfl, ?_⟩
    have no := lastP_none.mp q
    have nV : look V (k - U.length) x (bk S j).2.1 = none := look_none.mpr (fun i hi z => by
      have := no (U.length + i) (by omega)
      unfold dvP stp at this
      rw [if_neg (by omega), Nat.add_sub_cancel_left] at this
      exact dB_iff'.mp this (same_mt hm z.1 z.2))
    have nU : look U (min k U.length) x (bk S j).2.1 = none := look_none.mpr (fun i hi z => by
      have := no i (by omega)
      unfold dvP stp at this
      rw [if_pos (by omega)] at this
      exact dB_iff'.mp this (same_mt hm z.1 z.2))
    have sS : look S S.length x (bk S j).2.1 = some j := look_some.mpr ⟨hj, ⟨hm, rfl⟩, fun i i1 i2 z => by
      have := wf_same wS i2 hj (same_mt hm z.1 z.2)
      omega⟩
    unfold val
    rw [nV, nU, sS]
  | some i =>
    obtain ⟨i1, i2, i3⟩ := lastP_some.mp q
    have i2 := dB_iff.mp i2
    by_cases u : i < U.length
    · right; right
      have es : stp U V i = bk U i := by unfold stp; rw [if_pos u]
      rw [es] at i2
      refine ⟨(bk U i).2.2, (wU i u).2.2.1, by show (if i < U.length then nI (bk U i).2.2 else -1) = _; rw [if_pos u], ?_⟩
      have nV : look V (k - U.length) x (bk S j).2.1 = none := look_none.mpr (fun m hm2 z => by
        have := i3 (U.length + m) (by omega) (by omega)
        unfold dvP stp at this
        rw [if_neg (by omega), Nat.add_sub_cancel_left] at this
        exact dB_iff'.mp this (same_mt hm z.1 z.2))
      have sU : look U (min k U.length) x (bk S j).2.1 = some i := look_some.mpr ⟨by omega, ⟨mt_same hm i2, i2.2⟩, fun m m1 m2 z => by
        have a := same_mt hm z.1 z.2
        have := dU m i (by omega) u ⟨by rw [a.1, i2.1], by rw [a.2, i2.2]⟩
        omega⟩
      unfold val
      rw [nV, sU]
    · left
      have es : stp U V i = bk V (i - U.length) := by unfold stp; rw [if_neg u]
      rw [es] at i2
      refine ⟨by show (if i < U.length then nI (bk U i).2.2 else -1) = _; rw [if_neg u], ?_⟩
      have sV : look V (k - U.length) x (bk S j).2.1 = some (i - U.length) := look_some.mpr ⟨by omega, ⟨mt_same hm i2, i2.2⟩, fun m m1 m2 z => by
        have a := same_mt hm z.1 z.2
        have := dV m (i - U.length) (by omega) (by omega) ⟨by rw [a.1, i2.1], by rw [a.2, i2.2]⟩
        omega⟩
      unfold val
      rw [sV]
/-- the best so far, over the lengths in R -/
def Jq (f : Nat → Option Nat) (R : Nat → Prop) (b g : Int32) : Prop := (b = -1 ∧ g = 16 ∧ ∀ n, R n → f n = none) ∨ ∃ n h, n ≤ 32 ∧ b = nI n ∧ g = nI h ∧ f n = some h ∧ ∀ m, R m → f m ≠ none → m ≤ n
theorem Jq.none {f : Nat → Option Nat} {R R' : Nat → Prop} {b g : Int32} (h : Jq f R b g) (hr : ∀ n, R' n → R n ∨ f n = none) : Jq f R' b g := by
  rcases h with ⟨h1, h2, h3⟩ | ⟨n, a, h1, h2, h3, h4, h5⟩
  · exact Or.inl ⟨h1, h2, fun m hm => (hr m hm).elim (h3 m) id⟩
  · exact Or.inr ⟨n, a, h1, h2, h3, h4, fun m hm z => (hr m hm).elim (fun q => h5 m q z) (fun q => absurd q z)⟩
theorem Jq.more {f : Nat → Option Nat} {R R' : Nat → Prop} {b g : Int32} (h : Jq f R b g) {n0 g0 : Nat} (hn : n0 ≤ 32) (hf : f n0 = some g0) (hr : ∀ n, R' n → R n ∨ n = n0) : (b < nI n0 → Jq f R' (nI n0) (nI g0)) ∧ (¬ b < nI n0 → Jq f R' b g) := by
  rcases h with ⟨h1, h2, h3⟩ | ⟨n, a, h1, h2, h3, h4, h5⟩
  · refine ⟨fun _ => Or.inr ⟨n0, g0, hn, rfl, rfl, hf, fun m hm z => ?_⟩, fun q => ?_⟩
    · rcases hr m hm with r | r
      · exact absurd (h3 m r) z
      · omega
    · exfalso
      apply q
      rw [h1, Int32.lt_iff_toInt_lt, nI_toInt (by omega)]
      have e1 : (-1 : Int32).toInt = -1 := rfl
      omega
  · refine ⟨fun q => Or.inr ⟨n0, g0, hn, rfl, rfl, hf, fun m hm z => ?_⟩, fun q => Or.inr ⟨n, a, h1, h2, h3, h4, fun m hm z => ?_⟩⟩
    · rw [h2] at q
      have q := (nI_ltI (by omega) (by omega)).mp q
      rcases hr m hm with r | r
      · have := h5 m r z; omega
      · omega
    · rw [h2] at q
      have q : ¬ n < n0 := fun w => q ((nI_ltI (by omega) (by omega)).mpr w)
      rcases hr m hm with r | r
      · exact h5 m r z
      · omega
theorem best_of {f : Nat → Option Nat} {n h : Nat} (hf : f n = some h) : ∀ m, n < m → (∀ j, j < m → f j ≠ none → j ≤ n) → best f m = h := by
  intro m
  induction m with
  | zero => intro h; omega
  | succ m ih =>
    intro h1 h2
    by_cases e : m = n
    · subst e; rw [best, hf]
    · have : f m = none := by
        cases q : f m with
        | none => rfl
        | some v => have := h2 m (by omega) (by rw [q]; simp); omega
      rw [best, this]
      exact ih (by omega) (fun j hj z => h2 j (by omega) z)
theorem best_none {f : Nat → Option Nat} : ∀ m, (∀ j, j < m → f j = none) → best f m = 16 := by
  intro m
  induction m with
  | zero => intro _; rfl
  | succ m ih =>
    intro h
    rw [best, h m (by omega)]
    exact ih (fun j hj => h j (by omega))
theorem Jq.fin {f : Nat → Option Nat} {R : Nat → Prop} {b g : Int32} (h : Jq f R b g) (hr : ∀ n, n < 33 → f n ≠ Option.none → R n) : g = nI (best f 33) := by
  rcases h with ⟨h1, h2, h3⟩ | ⟨n, a, h1, h2, h3, h4, h5⟩
  · rw [h2, best_none 33]
    · rfl
    · intro j hj
      cases q : f j with
      | none => rfl
      | some v => exact absurd (h3 j (hr j hj (by rw [q]; simp))) (by rw [q]; simp)
  · rw [h3, best_of h4 33 (by omega) (fun j hj z => h5 j (hr j hj z) z)]
theorem r_led_147 {M : gMem} {S U V : List L3} {k x : Nat} (hw : wyW (some (S, U, V))) (h : sts M U V) (hk : k ≤ U.length + V.length) (hx : x < 4294967296) : ∀ fu i (b g : Int32), i ≤ k → k - i < fu → Jq (val S U V k x) (fun n => (∃ j, j < S.length ∧ mt (bk S j) x = true ∧ (bk S j).2.1 = n) ∨ ∃ j, j < i ∧ j < U.length ∧ mt (bk U j) x = true ∧ (bk U j).2.1 = n) b g → mX8_led_147 fu M (nI k) (lN x) b g (nI i) = some (nI (best (val S U V k x) 33)) := by
  obtain ⟨wS, wU, wV, l1, l2, l3, dU, dV, dUV, sub⟩ := id hw
  intro fu
  induction fu with
  | zero => intro i b g _ h; omega
  | succ fu ih =>
    intro i b g hi hf hJ
    rw [mX8_led_147]
    by_cases z : i < k
    · obtain ⟨e1, e2, e3, e4, w⟩ := h i (by omega)
      have w1 := w.1; have w2 := w.2.1
      rw [if_neg (nI_ge z (by omega)), ckI (n := 128) (by omega) (by omega), nI_cl (by omega), e1]
      by_cases u : i < U.length
      · have es : stp U V i = bk U i := by unfold stp; rw [if_pos u]
        rw [if_pos u, if_neg one_ne, ckI (n := 128) (by omega) (by omega), ckI (n := 128) (by omega) (by omega), e2, e3, r_begins hx w1 w2, Option.bind_some]
        rw [es] at w w1 w2 e2 e3 e4 ⊢
        by_cases c : mt (bk U i) x = true
        · have hval : val S U V k x (bk U i).2.1 = some (bk U i).2.2 := by
            have nV : look V (k - U.length) x (bk U i).2.1 = none := look_none.mpr (fun m hm2 q => dUV i m u (by omega) (by
              have := same_mt c q.1 q.2
              exact ⟨this.1.symm, this.2.symm⟩))
            have sU : look U (min k U.length) x (bk U i).2.1 = some i := look_some.mpr ⟨by omega, ⟨c, rfl⟩, fun m m1 m2 q => by
              have := dU m i (by omega) u (same_mt c q.1 q.2)
              omega⟩
            unfold val
            rw [nV, sU]
          have mo := Jq.more (R' := fun n => (∃ j, j < S.length ∧ mt (bk S j) x = true ∧ (bk S j).2.1 = n) ∨ ∃ j, j < i + 1 ∧ j < U.length ∧ mt (bk U j) x = true ∧ (bk U j).2.1 = n) hJ (n0 := (bk U i).2.1) w2 hval (by
            rintro n (q | ⟨j, j1, j2, j3, j4⟩)
            · exact Or.inl (Or.inl q)
            · by_cases e : j = i
              · subst e; exact Or.inr j4.symm
              · exact Or.inl (Or.inr ⟨j, by omega, j2, j3, j4⟩))
          rw [if_pos ((mt_div w).mp c), if_neg one_ne, ckI (n := 128) (by omega) (by omega)]
          by_cases d : b < nI (bk U i).2.1
          · rw [if_pos d, ckI (n := 128) (by omega) (by omega), nmd, ckI (n := 128) (by omega) (by omega), e4, nmd, nmd, nI_1]
            exact ih (i + 1) _ _ (by omega) (by omega) (mo.1 d)
          · rw [if_neg d, nmd, nI_1]
            exact ih (i + 1) _ _ (by omega) (by omega) (mo.2 d)
        · rw [if_neg (fun q => c ((mt_div w).mpr q)), if_pos rfl, nmd, nI_1]
          refine ih (i + 1) _ _ (by omega) (by omega) (hJ.none ?_)
          rintro n (q | ⟨j, j1, j2, j3, j4⟩)
          · exact Or.inl (Or.inl q)
          · by_cases e : j = i
            · subst e; exact absurd j3 c
            · exact Or.inl (Or.inr ⟨j, by omega, j2, j3, j4⟩)
      · rw [if_neg u, if_pos rfl, nmd, nI_1]
        refine ih (i + 1) _ _ (by omega) (by omega) (hJ.none ?_)
        rintro n (q | ⟨j, j1, j2, j3, j4⟩)
        · exact Or.inl (Or.inl q)
        · exact Or.inl (Or.inr ⟨j, by omega, j2, j3, j4⟩)
    · have e : i = k := by omega
      subst e
      rw [if_pos (nI_le (Nat.le_refl _) (by omega))]
      rw [hJ.fin]
      intro n hn q
      unfold val at q
      cases c1 : look V (i - U.length) x n with
      | some j => rw [c1] at q; exact absurd rfl q
      | none =>
        rw [c1] at q
        cases c2 : look U (min i U.length) x n with
        | some j =>
          obtain ⟨a1, a2, -⟩ := look_some.mp c2
          exact Or.inr ⟨j, by omega, by omega, a2⟩
        | none =>
          rw [c2] at q
          cases c3 : look S S.length x n with
          | some j =>
            obtain ⟨a1, a2, -⟩ := look_some.mp c3
            exact Or.inl ⟨j, a1, a2⟩
          | none => rw [c3] at q; exact absurd rfl q
theorem r_led_36 {M : gMem} {S U V : List L3} {k x : Nat} (hw : wyW (some (S, U, V))) (h : sts M U V) (hS : wy3 M S S.length) (h27 : M.1 0 27 = nI S.length) (hk : k ≤ U.length + V.length) (hx : x < 4294967296) : ∀ fu i (b g : Int32), i ≤ S.length → S.length - i < fu → Jq (val S U V k x) (fun n => ∃ j, j < i ∧ mt (bk S j) x = true ∧ (bk S j).2.1 = n) b g → mX8_led_36 fu M (nI k) (lN x) b g (nI i) = some (nI (best (val S U V k x) 33)) := by
  have hfu := FU_big
  obtain ⟨wS, wU, wV, l1, l2, l3, dU, dV, dUV, sub⟩ := id hw
  intro fu
  induction fu with
  | zero => intro i b g _ h; omega
  | succ fu ih =>
    intro i b g hi hf hJ
    rw [mX8_led_36, h27]
    by_cases z : i < S.length
    · obtain ⟨e1, e2, e3⟩ := hS i z
      have w := wS.1 i z
      have w1 := w.1; have w2 := w.2.1
      rw [if_neg (nI_ge z (by omega)), ckI (n := 64) (by omega) (by omega), ckI (n := 64) (by omega) (by omega), nI_cl (by omega), e1, e2, r_done h (by omega) hk w, Option.bind_some]
      have skip : (mt (bk S i) x = true → val S U V k x (bk S i).2.1 = none) → mX8_led_36 fu M (nI k) (lN x) b g (nI (i + 1)) = some (nI (best (val S U V k x) 33)) := by
        intro q
        refine ih (i + 1) _ _ (by omega) (by omega) (hJ.none ?_)
        rintro n ⟨j, j1, j3, j4⟩
        by_cases e : j = i
        · subst e; exact Or.inr (by rw [← j4]; exact q j3)
        · exact Or.inl ⟨j, by omega, j3, j4⟩
      by_cases c : mt (bk S i) x = true
      · have more : ∀ g0, val S U V k x (bk S i).2.1 = some g0 → (b < nI (bk S i).2.1 → mX8_led_36 fu M (nI k) (lN x) (nI (bk S i).2.1) (nI g0) (nI (i + 1)) = some (nI (best (val S U V k x) 33))) ∧ (¬ b < nI (bk S i).2.1 → mX8_led_36 fu M (nI k) (lN x) b g (nI (i + 1)) = some (nI (best (val S U V k x) 33))) := by
          intro g0 hv
          have mo := Jq.more (R' := fun n => ∃ j, j < i + 1 ∧ mt (bk S j) x = true ∧ (bk S j).2.1 = n) hJ (n0 := (bk S i).2.1) w2 hv (by
            rintro n ⟨j, j1, j3, j4⟩
            by_cases e : j = i
            · subst e; exact Or.inr j4.symm
            · exact Or.inl ⟨j, by omega, j3, j4⟩)
          exact ⟨fun d => ih (i + 1) _ _ (by omega) (by omega) (mo.1 d), fun d => ih (i + 1) _ _ (by omega) (by omega) (mo.2 d)⟩
        rcases dv_val hw hk z c with ⟨d1, d2⟩ | ⟨d1, d2⟩ | ⟨g0, g16, d1, d2⟩
        · rw [d1, if_pos rfl, nmd, nI_1]
          exact skip (fun _ => d2)
        · have mo := more _ d2
          rw [d1, if_neg (by decide), ckI (n := 64) (by omega) (by omega), ckI (n := 64) (by omega) (by omega), r_begins hx w1 w2, Option.bind_some, if_pos ((mt_div w).mp c), if_neg one_ne, ckI (n := 64) (by omega) (by omega)]
          by_cases d : b < nI (bk S i).2.1
          · rw [if_pos d, ckI (n := 64) (by omega) (by omega), nmd, if_pos rfl, ckI (n := 64) (by omega) (by omega), e3, nmd, nmd, nI_1]
            exact mo.1 d
          · rw [if_neg d, nmd, nI_1]
            exact mo.2 d
        · have mo := more _ d2
          have n2 : ¬ nI g0 = (-2 : Int32) := fun q => by
            have := congrArg Int32.toInt q
            rw [nI_toInt (by omega)] at this
            have e1 : (-2 : Int32).toInt = -2 := rfl
            omega
          rw [d1, if_neg (nI_m1 (by omega)), ckI (n := 64) (by omega) (by omega), ckI (n := 64) (by omega) (by omega), r_begins hx w1 w2, Option.bind_some, if_pos ((mt_div w).mp c), if_neg one_ne, ckI (n := 64) (by omega) (by omega)]
          by_cases d : b < nI (bk S i).2.1
          · rw [if_pos d, ckI (n := 64) (by omega) (by omega), nmd, if_neg n2, nmd, nI_1]
            exact mo.1 d
          · rw [if_neg d, nmd, nI_1]
            exact mo.2 d
      · have sk := skip (fun q => absurd q c)
        by_cases dz : dv U V (lastP (dvP U V (bk S i)) k) = -1
        · rw [if_pos dz, nmd, nI_1]; exact sk
        · rw [if_neg dz, ckI (n := 64) (by omega) (by omega), ckI (n := 64) (by omega) (by omega), r_begins hx w1 w2, Option.bind_some, if_neg (fun q => c ((mt_div w).mpr q)), if_pos rfl, nmd, nI_1]
          exact sk
    · have e : i = S.length := by omega
      subst e
      rw [if_pos (nI_le (Nat.le_refl _) (by omega))]
      refine r_led_147 hw h hk hx FU 0 b g (by omega) (by omega) (hJ.none ?_)
      rintro n (q | ⟨j, j1, -⟩)
      · exact Or.inl q
      · omega
theorem Inv.keep66 {MC MR MC' : gMem} (h : Inv MC MR) (o : Off 66 1 MC MC') : Inv MC' MR := by
  obtain ⟨bks, hb, ⟨B1, h26⟩, ⟨B2, h30⟩, ⟨cv, c1, c2, c3⟩, wy, ⟨⟨S, q1⟩, ⟨U, q2⟩, ⟨V, q3⟩, w1⟩, w2, w3⟩ := h
  refine ⟨bks, ⟨fun b h6 => (hb.1 b h6).off o (by omega), hb.2.1, hb.2.2⟩, ⟨B1, h26.off o (by omega)⟩, ⟨B2, h30.off o (by omega)⟩, ⟨cv, ⟨c1.1, by rw [(o 50 (by omega)).1]; exact c1.2.1, fun i hi => by rw [(o 51 (by omega)).2, (o 52 (by omega)).1]; exact c1.2.2 i hi⟩, c2, c3⟩, wy, ⟨⟨S, q1.off o (by omega)⟩, ⟨U, q2.off o (by omega)⟩, ⟨V, q3.off o (by omega)⟩, ?_⟩, w2, w3⟩
  match wy, w1 with
  | none, w1 => show MC'.1 53 4 = -1; rw [(o 53 (by omega)).1]; exact w1
  | some (S, U, V), w1 => exact ⟨by rw [(o 53 (by omega)).1]; exact w1.1, w1.2.1.off o (by omega), w1.2.2.1.off o (by omega), w1.2.2.2.off o (by omega)⟩
theorem op_led {MC MR : gMem} (h : Inv MC MR) (x1 x2 : Int32) : ∃ r MC', mX7_led MC x1 x2 = some (r, MC') ∧ mX8_led MR x1 x2 = some r ∧ Inv MC' MR := by
  have hfu := FU_big
  obtain ⟨bks, hb, h26, h30, -, wy, w1, w2, w3⟩ := id h
  obtain ⟨x, hx, rfl⟩ := nI_all x2
  rw [mX7_led, mX8_led]
  obtain ⟨-, -, -, w1⟩ := w1
  match wy, w1, w2, w3 with
  | none, w1, w2, _ =>
    have w1 : MC.1 53 4 = -1 := w1
    have w2 : MR.1 0 21 = 0 := w2
    rw [mX6_goalBehind, w1, w2, if_pos rfl]
    by_cases h0 : x1 < 0
    · rw [if_pos h0, Option.bind_some]; exact ⟨_, _, rfl, rfl, h⟩
    · have : ¬ x1 ≤ -1 := by
        rw [Int32.lt_iff_toInt_lt] at h0
        rw [Int32.le_iff_toInt_le]
        have e0 : (0 : Int32).toInt = 0 := rfl
        have e1 : (-1 : Int32).toInt = -1 := rfl
        omega
      rw [if_neg h0, if_neg this, Option.bind_some]; exact ⟨_, _, rfl, rfl, h⟩
  | some (S, U, V), w1, w2, w3 =>
    obtain ⟨s1, hS, hU, hV⟩ := w1
    obtain ⟨r1, r2, r3, r4, r5, r6⟩ := w2
    obtain ⟨wS, wU, wV, l1, l2, l3, -⟩ := id w3
    rw [r1, r2, if_neg one_ne]
    rcases i32_range (x := x1) (n := U.length + V.length) (by omega) with q | ⟨k, hk, rfl⟩
    · rw [r_lies_out q, Option.bind_some, if_pos rfl, mX6_goalBehind, s1]
      by_cases h0 : x1 < 0
      · rw [if_pos h0, Option.bind_some]; exact ⟨_, _, rfl, rfl, h⟩
      · rw [if_neg h0, if_neg (fun z => i32_nlt.mpr z (q.resolve_left h0)), Option.bind_some]; exact ⟨_, _, rfl, rfl, h⟩
    · rw [r_lies_in hk (by omega), Option.bind_some, if_neg one_ne, r_number hx, Option.bind_some]
      obtain ⟨MC', f1, o1⟩ := m_led hS hU hV wS.1 wU wV s1 hk hx
      have st : sts MR U V := by
        intro i hi
        unfold stp
        by_cases u : i < U.length
        · rw [if_pos u, if_pos u]
          obtain ⟨a1, a2, a3, a4⟩ := r4 i u
          exact ⟨a1, a2, a3, a4, wU i u⟩
        · rw [if_neg u, if_neg u]
          obtain ⟨a1, a2, a3, a4⟩ := r5 (i - U.length) (by omega)
          rw [show U.length + (i - U.length) = i by omega] at a1 a2 a3 a4
          exact ⟨a1, a2, a3, a4, wV _ (by omega)⟩
      have g := r_led_36 w3 st r6 r3 hk hx FU 0 (-1) 16 (by omega) (by omega) (Or.inl ⟨rfl, rfl, fun n hn => by
        obtain ⟨j, j1, -⟩ := hn
        omega⟩)
      have g' : mX8_led_36 FU MR (nI k) (lN x) (-1) 16 0 = _ := g
      rw [f1, g', Option.bind_some]
      exact ⟨_, _, rfl, rfl, h.keep66 o1⟩
