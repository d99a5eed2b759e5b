/-! SPANS: runs of a function on addresses -/
def rend (R : List P2) (t i : Nat) : Nat := if i + 1 < R.length then (ck2 R (i + 1)).1 else t
def pruns (F : Nat → Nat) (R : List P2) (t : Nat) : Prop := (R.length = 0 ↔ t = 0) ∧ (0 < R.length → (ck2 R 0).1 = 0) ∧ (∀ i, i + 1 < R.length → (ck2 R i).1 < (ck2 R (i + 1)).1 ∧ (ck2 R i).2 ≠ (ck2 R (i + 1)).2) ∧ (∀ i, i < R.length → (ck2 R i).1 < t) ∧ ∀ i, i < R.length → ∀ x, (ck2 R i).1 ≤ x → x < rend R t i → F x = (ck2 R i).2
def extR (R : List P2) (t g : Nat) : List P2 := if 0 < R.length ∧ (ck2 R (R.length - 1)).2 = g then R else R ++ [(t, g)]
theorem ck2_app {R : List P2} {q : P2} (k : Nat) (h : k ≤ R.length) : ck2 (R ++ [q]) k = if k < R.length then ck2 R k else q := by
  unfold ck2
  rw [List.getD_eq_getElem?_getD, List.getElem?_append]
  by_cases k1 : k < R.length
  · rw [if_pos k1, if_pos k1, List.getD_eq_getElem?_getD]
  · rw [if_neg k1, if_neg k1, show k - R.length = 0 by omega]; rfl
theorem pruns_nil (F : Nat → Nat) : pruns F [] 0 := ⟨⟨fun _ => rfl, fun _ => rfl⟩, fun h => absurd h (by simp), fun i h => absurd h (by simp), fun i h => absurd h (by simp), fun i h => absurd h (by simp)⟩
theorem pruns_ext {F : Nat → Nat} {R : List P2} {t e g : Nat} (h : pruns F R t) (he : t < e) (hF : ∀ x, t ≤ x → x < e → F x = g) : pruns F (extR R t g) e := by
  obtain ⟨h1, h2, h3, h4, h5⟩ := h
  unfold extR
  by_cases c : 0 < R.length ∧ (ck2 R (R.length - 1)).2 = g
  · rw [if_pos c]
    refine ⟨⟨fun q => by omega, fun q => by omega⟩, h2, h3, fun i hi => ?_, fun i hi x x1 x2 => ?_⟩
    · have := h4 i hi; omega
    · unfold rend at x2
      by_cases hl : i + 1 < R.length
      · rw [if_pos hl] at x2
        exact h5 i hi x x1 (by unfold rend; rw [if_pos hl]; exact x2)
      · rw [if_neg hl] at x2
        by_cases xt : x < t
        · exact h5 i hi x x1 (by unfold rend; rw [if_neg hl]; exact xt)
        · rw [hF x (by omega) x2, show i = R.length - 1 by omega, c.2]
  · rw [if_neg c]
    have len : (R ++ [(t, g)]).length = R.length + 1 := by rw [List.length_append]; rfl
    have hlast : ck2 (R ++ [(t, g)]) R.length = (t, g) := by rw [ck2_app _ (Nat.le_refl _), if_neg (Nat.lt_irrefl _)]
    have hlow : ∀ k, k < R.length → ck2 (R ++ [(t, g)]) k = ck2 R k := fun k hk => by rw [ck2_app _ (by omega), if_pos hk]
    refine ⟨⟨fun q => by rw [len] at q; omega, fun q => by omega⟩, fun _ => ?_, fun i hi => ?_, fun i hi => ?_, fun i hi x x1 x2 => ?_⟩
    · by_cases z : 0 < R.length
      · rw [hlow 0 z]; exact h2 z
      · have z0 : R.length = 0 := by omega
        have := hlast
        rw [z0] at this
        rw [this]
        exact h1.mp z0
    · rw [len] at hi
      rw [hlow i (by omega)]
      by_cases z : i + 1 < R.length
      · rw [hlow (i + 1) z]; exact h3 i z
      · rw [show i + 1 = R.length by omega, hlast]
        refine ⟨h4 i (by omega), fun q => c ⟨by omega, ?_⟩⟩
        rw [show R.length - 1 = i by omega]
        exact q
    · rw [len] at hi
      by_cases z : i < R.length
      · rw [hlow i z]; have := h4 i z; omega
      · rw [show i = R.length by omega, hlast]; exact he
    · rw [len] at hi
      unfold rend at x2
      rw [len] at x2
      by_cases z : i < R.length
      · rw [hlow i z] at x1 ⊢
        rw [if_pos (by omega)] at x2
        refine h5 i z x x1 ?_
        unfold rend
        by_cases z2 : i + 1 < R.length
        · rw [if_pos z2]; rw [hlow _ z2] at x2; exact x2
        · rw [if_neg z2]; rw [show i + 1 = R.length by omega, hlast] at x2; exact x2
      · have zi : i = R.length := by omega
        rw [if_neg (by omega)] at x2
        rw [zi, hlast] at x1 ⊢
        exact hF x x1 x2
/-- there is one such list alone -/
theorem pruns_start {F : Nat → Nat} {R S : List P2} {t : Nat} (h : pruns F R t) (g : pruns F S t) : ∀ i, i < R.length → i < S.length ∧ ck2 R i = ck2 S i := by
  have goal : ∀ i, i < R.length → i < S.length → (ck2 R i).1 = (ck2 S i).1 → ck2 R i = ck2 S i := by
    intro i hi hj e
    have a := h.2.2.2.2 i hi (ck2 R i).1 (Nat.le_refl _) (by
      unfold rend
      by_cases z : i + 1 < R.length
      · rw [if_pos z]; exact (h.2.2.1 i z).1
      · rw [if_neg z]; exact h.2.2.2.1 i hi)
    have b := g.2.2.2.2 i hj (ck2 S i).1 (Nat.le_refl _) (by
      unfold rend
      by_cases z : i + 1 < S.length
      · rw [if_pos z]; exact (g.2.2.1 i z).1
      · rw [if_neg z]; exact g.2.2.2.1 i hj)
    rw [e] at a
    exact Prod.ext e (a.symm.trans b)
  intro i
  induction i with
  | zero =>
    intro hi
    have hs : 0 < S.length := by
      have := h.1; have := g.1; omega
    exact ⟨hs, goal 0 hi hs (by rw [h.2.1 hi, g.2.1 hs])⟩
  | succ i ih =>
    intro hi
    obtain ⟨hs, e⟩ := ih (by omega)
    have a := h.2.2.1 i hi
    have l1 := h.2.2.2.1 (i + 1) hi
    have fa : F (ck2 R (i + 1)).1 = (ck2 R (i + 1)).2 := h.2.2.2.2 (i + 1) hi _ (Nat.le_refl _) (by
      unfold rend
      by_cases z : i + 1 + 1 < R.length
      · rw [if_pos z]; exact (h.2.2.1 (i + 1) z).1
      · rw [if_neg z]; exact l1)
    by_cases hl : i + 1 < S.length
    · have b := g.2.2.1 i hl
      have l2 := g.2.2.2.1 (i + 1) hl
      have fb : F (ck2 S (i + 1)).1 = (ck2 S (i + 1)).2 := g.2.2.2.2 (i + 1) hl _ (Nat.le_refl _) (by
        unfold rend
        by_cases z : i + 1 + 1 < S.length
        · rw [if_pos z]; exact (g.2.2.1 (i + 1) z).1
        · rw [if_neg z]; exact l2)
      refine ⟨hl, goal (i + 1) hi hl ?_⟩
      rcases Nat.lt_trichotomy (ck2 R (i + 1)).1 (ck2 S (i + 1)).1 with q | q | q
      · exfalso
        have := g.2.2.2.2 i hs (ck2 R (i + 1)).1 (by rw [← e]; omega) (by unfold rend; rw [if_pos hl]; exact q)
        rw [fa, ← e] at this
        exact a.2 this.symm
      · exact q
      · exfalso
        have := h.2.2.2.2 i (by omega) (ck2 S (i + 1)).1 (by rw [e]; omega) (by unfold rend; rw [if_pos hi]; exact q)
        rw [fb, e] at this
        exact b.2 this.symm
    · exfalso
      have := g.2.2.2.2 i hs (ck2 R (i + 1)).1 (by rw [← e]; omega) (by unfold rend; rw [if_neg hl]; exact l1)
      rw [fa, ← e] at this
      exact a.2 this.symm
theorem pruns_uniq {F : Nat → Nat} {R S : List P2} {t : Nat} (h : pruns F R t) (g : pruns F S t) : R = S := by
  have a := pruns_start h g
  have b := pruns_start g h
  apply List.ext_getElem?
  intro i
  by_cases hi : i < R.length
  · have q := a i hi
    have e := q.2
    unfold ck2 at e
    rw [List.getD_eq_getElem?_getD, List.getD_eq_getElem?_getD, List.getElem?_eq_getElem hi, List.getElem?_eq_getElem q.1] at e
    rw [List.getElem?_eq_getElem hi, List.getElem?_eq_getElem q.1]
    exact congrArg some e
  · by_cases hj : i < S.length
    · exact absurd (b i hj).1 hi
    · rw [List.getElem?_eq_none (by omega), List.getElem?_eq_none (by omega)]
def en (q : L3) : Nat := q.1 + 2 ^ (32 - q.2.1)
theorem mt_range {q : L3} (h : wfL q) (x : Nat) : mt q x = true ↔ q.1 ≤ x ∧ x < en q := by
  rw [mt_iff]
  unfold en
  have h0 := pw_pos (32 - q.2.1)
  obtain ⟨c, hc⟩ := Nat.dvd_of_mod_eq_zero h.2.2.2
  generalize 2 ^ (32 - q.2.1) = s at *
  rw [hc]
  have d := Nat.div_add_mod x s
  have m := Nat.mod_lt x h0
  constructor
  · intro e
    rw [Nat.mul_comm] at e
    omega
  · rintro ⟨a, b⟩
    have e : x / s = c := by
      apply Nat.div_eq_of_lt_le
      · rw [Nat.mul_comm]; exact a
      · rw [Nat.add_mul, Nat.one_mul, Nat.mul_comm]; exact b
    rw [e, Nat.mul_comm]
theorem en_le {q : L3} (h : wfL q) : en q ≤ 4294967296 := by
  unfold en
  obtain ⟨h1, h2, h3, h4⟩ := h
  obtain ⟨c, hc⟩ := Nat.dvd_of_mod_eq_zero h4
  have e : (4294967296 : Nat) = 2 ^ (32 - q.2.1) * 2 ^ q.2.1 := by rw [← Nat.pow_add, show 32 - q.2.1 + q.2.1 = 32 by omega]
  have h0 := pw_pos (32 - q.2.1)
  rw [hc] at h1 ⊢
  rw [e] at h1 ⊢
  have : c < 2 ^ q.2.1 := Nat.lt_of_mul_lt_mul_left h1
  calc 2 ^ (32 - q.2.1) * c + 2 ^ (32 - q.2.1) = 2 ^ (32 - q.2.1) * (c + 1) := by rw [Nat.mul_add, Nat.mul_one]
    _ ≤ 2 ^ (32 - q.2.1) * 2 ^ q.2.1 := Nat.mul_le_mul_left _ this
/-- of two LINES in order that hold one ADDRESS, the later lies within the earlier -/
theorem en_nest {B : List L3} (hw : wfB B) {i j x : Nat} (hij : i < j) (hj : j < B.length) (h1 : mt (bk B i) x = true) (h2 : mt (bk B j) x = true) : en (bk B j) ≤ en (bk B i) := by
  have hn := mt_lt hw hij hj h1 h2
  have w1 := hw.1 i (by omega)
  have w2 := hw.1 j hj
  rw [mt_iff] at h1 h2
  unfold en
  rw [← h1, ← h2]
  have e : 2 ^ (32 - (bk B i).2.1) = 2 ^ ((bk B j).2.1 - (bk B i).2.1) * 2 ^ (32 - (bk B j).2.1) := by
    rw [← Nat.pow_add]; congr 1; have := w2.2.1; omega
  generalize hs : 2 ^ (32 - (bk B j).2.1) = s at *
  generalize hc : 2 ^ ((bk B j).2.1 - (bk B i).2.1) = c at *
  rw [e]
  have s0 : 0 < s := by rw [← hs]; exact pw_pos _
  have c0 : 0 < c := by rw [← hc]; exact pw_pos _
  have : x / s + 1 ≤ (x / (c * s) + 1) * c := by
    have e2 : x / (c * s) = x / s / c := by rw [Nat.mul_comm, Nat.div_div_eq_div_mul]
    rw [e2]
    have := Nat.div_add_mod (x / s) c
    have m := Nat.mod_lt (x / s) c0
    rw [Nat.add_mul, Nat.one_mul, Nat.mul_comm (x / s / c) c]
    omega
  calc x / s * s + s = (x / s + 1) * s := by rw [Nat.add_mul, Nat.one_mul]
    _ ≤ (x / (c * s) + 1) * c * s := Nat.mul_le_mul_right _ this
    _ = x / (c * s) * (c * s) + c * s := by rw [Nat.mul_assoc, Nat.add_mul, Nat.one_mul]
theorem or_low {a k : Nat} (h : a % 2 ^ k = 0) : a ||| (2 ^ k - 1) = a + 2 ^ k - 1 := by
  obtain ⟨c, hc⟩ := Nat.dvd_of_mod_eq_zero h
  have h0 := pw_pos k
  have e : a = c <<< k := by rw [Nat.shiftLeft_eq, hc, Nat.mul_comm]
  rw [e, ← Nat.shiftLeft_add_eq_or_of_lt (by omega), Nat.add_sub_assoc (by omega)]
theorem m_last {M : gMem} {l : Nat} {B : List L3} (h : LB M l B) {i : Nat} (hi : i < B.length) (hw : wfL (bk B i)) : mX2_last M l (nI i) = some (lN (en (bk B i) - 1)) := by
  have h1 := h.1; have h2 := h.2.1
  obtain ⟨e1, e2, e3⟩ := h.2.2.2.2 i hi
  have hl := en_le hw
  have h0 := pw_pos (32 - (bk B i).2.1)
  unfold en at hl ⊢
  rw [mX2_last, ckI (by omega) (by omega), ckI (by omega) (by omega), nI_cl (by omega), e1, e2, m_mask hw.2.1, Option.bind_some, notmask hw.2.1, nI_or, or_low hw.2.2.2, m_wide (by omega), Option.bind_some]
