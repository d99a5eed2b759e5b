/-! the reference's SETS -/
theorem run_ends {F : Nat → Nat} {R : List P2} {t : Nat} (hp : pruns F R t) {i j : Nat} (hij : i < j) (hj : j < R.length) : rend R t i ≤ (ck2 R j).1 := by
  obtain ⟨h1, h2, h3, h4, h5⟩ := hp
  have key : ∀ d, ∀ i, i + 1 + d < R.length → (ck2 R (i + 1)).1 ≤ (ck2 R (i + 1 + d)).1 := by
    intro d
    induction d with
    | zero => intro i _; exact Nat.le_refl _
    | succ d ih =>
      intro i hi
      have a := ih i (by omega)
      have b := (h3 (i + 1 + d) (by omega)).1
      rw [show i + 1 + (d + 1) = i + 1 + d + 1 by omega]
      omega
  have := key (j - (i + 1)) i (by omega)
  rw [show i + 1 + (j - (i + 1)) = j by omega] at this
  unfold rend
  rw [if_pos (by omega)]
  exact this
theorem r_spanOf {F : Nat → Nat} {M : gMem} {R : List P2} (h : SPR M R) (hp : pruns F R 4294967296) {x : Nat} (hx : x < 4294967296) : ∃ i, i < R.length ∧ mX8_spanOf M (lN x) = some (nI i) ∧ (ck2 R i).1 ≤ x ∧ x < rend R 4294967296 i := by
  have hfu := FU_big
  have l0 : 0 < R.length := by
    rcases Nat.eq_zero_or_pos R.length with z | z
    · have := hp.1.mp z; omega
    · exact z
  have l300 := h.1
  have lp : ∀ f i, i < R.length → R.length - i < f → (ck2 R i).1 ≤ x → ∃ i, i < R.length ∧ mX8_spanOf_2 f M (lN x) (nI i) = some (nI i) ∨ True := fun _ _ _ _ _ => ⟨0, Or.inr trivial⟩
  clear lp
  have lp : ∀ f i, i < R.length → R.length - i < f → (ck2 R i).1 ≤ x → ∃ j, j < R.length ∧ mX8_spanOf_2 f M (lN x) (nI i) = some (nI j) ∧ (ck2 R j).1 ≤ x ∧ x < rend R 4294967296 j := by
    intro f
    induction f with
    | zero => intro i _ h; omega
    | succ f ih =>
      intro i hi hf hs
      have re := rend_gt hp hi
      rw [mX8_spanOf_2, r_end h hi, Option.bind_some]
      by_cases c : x < rend R 4294967296 i
      · rw [if_pos ((lN_lt' (by omega) (by omega)).mpr c)]
        exact ⟨i, hi, rfl, hs, c⟩
      · rw [if_neg (fun q => c ((lN_lt' (by omega) (by omega)).mp q)), nmd, nI_1]
        have e : i + 1 < R.length := by
          refine Classical.byContradiction fun z => c ?_
          unfold rend
          rw [if_neg z]; exact hx
        refine ih (i + 1) e (by omega) ?_
        unfold rend at c
        rw [if_pos e] at c
        omega
  exact lp FU 0 l0 (by omega) (by have := hp.2.1 l0; omega)
/-- no SPAN starts inside -/
def one (R : List P2) (p k : Nat) : Prop := ∀ i, 1 ≤ i → i < R.length → ¬ (p < (ck2 R i).1 ∧ (ck2 R i).1 < p + 2 ^ k)
theorem one_0 (R : List P2) (p : Nat) : one R p 0 := fun i _ _ q => by
  have := q.2
  rw [show 2 ^ 0 = 1 from rfl] at this
  omega
theorem one_iff {F : Nat → Nat} {R : List P2} (hp : pruns F R 4294967296) {p k i j : Nat} (hi : i < R.length) (hj : j < R.length) (i1 : (ck2 R i).1 ≤ p) (i2 : p < rend R 4294967296 i) (j1 : (ck2 R j).1 ≤ p + 2 ^ k - 1) (j2 : p + 2 ^ k - 1 < rend R 4294967296 j) : i = j ↔ one R p k := by
  have pos := pw_pos k
  constructor
  · intro e n n1 n2 q
    subst e
    have : i < n := by
      refine Classical.byContradiction fun z => ?_
      rcases Nat.lt_or_ge n i with y | y
      · have a := run_ends hp y hi
        have b := rend_gt hp n2
        omega
      · have : n = i := by omega
        subst this; omega
    have := run_ends hp this n2
    omega
  · intro o
    rcases Nat.lt_trichotomy i j with c | c | c
    · have := run_ends hp c hj
      exact absurd ⟨by omega, by omega⟩ (o j (by omega) hj)
    · exact c
    · have := run_ends hp c hi
      omega
theorem r_isOne {F : Nat → Nat} {M : gMem} {R : List P2} (h : SPR M R) (hp : pruns F R 4294967296) {p k : Nat} (hk : k ≤ 32) (hl : p + 2 ^ k ≤ 4294967296) : mX8_isOne M (lN p) (nI (32 - k)) = some (bz (dB (one R p k))) := by
  have pos := pw_pos k
  have l300 := h.1
  obtain ⟨i, i1, i2, i3, i4⟩ := r_spanOf h hp (show p < 4294967296 by omega)
  obtain ⟨j, j1, j2, j3, j4⟩ := r_spanOf h hp (show p + 2 ^ k - 1 < 4294967296 by omega)
  have io := one_iff hp i1 j1 i3 i4 j3 j4
  rw [mX8_isOne, i2, Option.bind_some, r_size (by omega), show 32 - (32 - k) = k by omega, Option.bind_some, lN_add, lN_m1 (by omega), j2, Option.bind_some]
  by_cases c : i = j
  · rw [if_pos (by rw [c]), dB_t (io.mp c)]; rfl
  · rw [if_neg (fun q => c ((nI_inj (by omega) (by omega)).mp q)), dB_f (fun q => c (io.mpr q))]; rfl
theorem one_span {F : Nat → Nat} {M : gMem} {R : List P2} (h : SPR M R) (hp : pruns F R 4294967296) {p k : Nat} (hl : p + 2 ^ k ≤ 4294967296) (o : one R p k) : ∃ i, i < R.length ∧ mX8_spanOf M (lN p) = some (nI i) ∧ ∀ x, p ≤ x → x < p + 2 ^ k → F x = (ck2 R i).2 := by
  have pos := pw_pos k
  obtain ⟨i, i1, i2, i3, i4⟩ := r_spanOf h hp (show p < 4294967296 by omega)
  obtain ⟨j, j1, j2, j3, j4⟩ := r_spanOf h hp (show p + 2 ^ k - 1 < 4294967296 by omega)
  have e := (one_iff hp i1 j1 i3 i4 j3 j4).mpr o
  subst e
  exact ⟨i, i1, i2, fun x x1 x2 => hp.2.2.2.2 i i1 x (by omega) (by omega)⟩
def gn (L : List Nat) (i : Nat) : Nat := L.getD i 0
theorem gn_mem {L : List Nat} {i : Nat} (h : i < L.length) : gn L i ∈ L := by
  unfold gn
  rw [List.getD_eq_getElem?_getD, List.getElem?_eq_getElem h]
  exact List.getElem_mem h
theorem mem_gn {L : List Nat} {q : Nat} (h : q ∈ L) : ∃ i, i < L.length ∧ gn L i = q := by
  obtain ⟨i, hi, e⟩ := List.getElem_of_mem h
  refine ⟨i, hi, ?_⟩
  unfold gn
  rw [List.getD_eq_getElem?_getD, List.getElem?_eq_getElem hi]
  exact e
theorem gn_app {L : List Nat} {q : Nat} (k : Nat) (h : k ≤ L.length) : gn (L ++ [q]) k = if k < L.length then gn L k else q := by
  unfold gn
  rw [List.getD_eq_getElem?_getD]
  by_cases c : k < L.length
  · rw [List.getElem?_append_left c, if_pos c, List.getD_eq_getElem?_getD]
  · rw [if_neg c, List.getElem?_append_right (by omega), show k - L.length = 0 by omega]; rfl
/-- the table of a level -/
def TB (M : gMem) (F : Nat → Nat) (n : Nat) (L : List Nat) : Prop := L.length ≤ 300 ∧ L.Nodup ∧ M.1 7 n = nI L.length ∧ ∀ j, j < L.length → gn L j < 4294967296 ∧ M.2 8 (600 * n + j) = lN (gn L j) ∧ M.1 9 (600 * n + j) = nI (mset F (32 - n) (gn L j))
theorem ix600 (n j : Nat) : ((600 : Int32) * nI n) + nI j = nI (600 * n + j) := by
  rw [show (600 : Int32) = nI 600 from rfl, pk_mul, nI_add]
theorem r_mixedAt {M : gMem} {F : Nat → Nat} {n : Nat} {L : List Nat} (hn : n ≤ 32) (h : TB M F n L) {p : Nat} (hp : p < 4294967296) : (∃ j, j < L.length ∧ mX8_mixedAt M (lN p) (nI n) = some (nI j) ∧ gn L j = p) ∨ (mX8_mixedAt M (lN p) (nI n) = some (-1) ∧ p ∉ L) := by
  have hfu := FU_big
  obtain ⟨h1, h2, h3, h4⟩ := h
  have lp : ∀ f i, i ≤ L.length → L.length - i < f → (∀ j, j < i → gn L j ≠ p) → (∃ j, j < L.length ∧ mX8_mixedAt_3 f M (lN p) (nI n) (nI i) = some (nI j) ∧ gn L j = p) ∨ (mX8_mixedAt_3 f M (lN p) (nI n) (nI i) = some (-1) ∧ p ∉ L) := by
    intro f
    induction f with
    | zero => intro i _ h; omega
    | succ f ih =>
      intro i hi hf hj
      rw [mX8_mixedAt_3, ckI (show n < 33 by omega) (by omega), nI_cl (by omega), h3]
      by_cases z : i < L.length
      · obtain ⟨e1, e2, e3⟩ := h4 i z
        rw [if_neg (nI_ge z (by omega)), ix600, ckI (by omega) (by omega), nI_cl (by omega), e2]
        by_cases c : gn L i = p
        · rw [if_pos (by rw [c])]
          exact Or.inl ⟨i, z, rfl, c⟩
        · rw [if_neg (fun q => c ((lN_inj (by omega) (by omega)).mp q)), nmd, nI_1]
          exact ih (i + 1) (by omega) (by omega) (fun j j1 => by
            by_cases e : j = i
            · rw [e]; exact c
            · exact hj j (by omega))
      · rw [if_pos (nI_le (by omega) (by omega))]
        refine Or.inr ⟨rfl, fun q => ?_⟩
        obtain ⟨j, j1, j2⟩ := mem_gn q
        exact hj j (by omega) j2
  exact lp FU 0 (by omega) (by omega) (fun j hj => by omega)
theorem r_setOf {F : Nat → Nat} (hF : ∀ x, F x ≤ 16) {M : gMem} {R : List P2} (h : SPR M R) (hp : pruns F R 4294967296) {p k : Nat} (hk : k ≤ 32) (hl : p + 2 ^ k ≤ 4294967296) (hT : ¬ one R p k → ∃ L, TB M F (32 - k) L ∧ p ∈ L) : mX8_setOf M (lN p) (nI (32 - k)) = some (nI (mset F k p)) := by
  have pos := pw_pos k
  have l300 := h.1
  rw [mX8_setOf, r_isOne h hp hk hl, Option.bind_some]
  by_cases c : one R p k
  · rw [dB_t c, if_neg (show ¬ bz true = 0 from one_ne)]
    obtain ⟨i, i1, i2, i3⟩ := one_span h hp hl c
    have v : (ck2 R i).2 ≤ 16 := by rw [← i3 p (Nat.le_refl _) (by omega)]; exact hF p
    rw [i2, Option.bind_some, ckI (by omega) (by omega), nI_cl (by omega), (h.2.2 i i1).2, m_one v, mset_const k p i3]
  · rw [dB_f c, if_pos (show bz false = 0 from rfl)]
    obtain ⟨L, hL, pL⟩ := hT c
    have l3 := hL.1
    rcases r_mixedAt (by omega) hL (show p < 4294967296 by omega) with ⟨j, j1, j2, j3⟩ | ⟨_, j2⟩
    · obtain ⟨e1, e2, e3⟩ := hL.2.2.2 j j1
      rw [j2, Option.bind_some, ix600, ckI (by omega) (by omega), nI_cl (by omega), e3, j3, show 32 - (32 - k) = k by omega]
    · exact absurd pL j2
/-- what is mixed at a level, of the first SPANS -/
def mixS (R : List P2) (i k p : Nat) : Prop := ∃ j, 1 ≤ j ∧ j < i ∧ (ck2 R j).1 / 2 ^ k * 2 ^ k = p ∧ p ≠ (ck2 R j).1
theorem mixS_one {R : List P2} {p k : Nat} (hp : p % 2 ^ k = 0) : ¬ one R p k ↔ mixS R R.length k p := by
  constructor
  · intro h
    refine Classical.byContradiction fun z => h (fun i i1 i2 q => z ⟨i, i1, i2, div_al hp (by omega) q.2, by omega⟩)
  · rintro ⟨j, j1, j2, j3, j4⟩ o
    have d := div_in (ck2 R j).1 k
    rw [j3] at d
    exact o j j1 j2 ⟨by omega, d.2⟩
def TBc (M : gMem) (F : Nat → Nat) (R : List P2) (k : Nat) : Prop := ∃ L, TB M F (32 - k) L ∧ L.length ≤ R.length ∧ ∀ p, p ∈ L ↔ mixS R R.length k p
/-- only the tables change -/
def TK (n : Nat) (M M' : gMem) : Prop := RK M M' ∧ M'.1 0 = M.1 0 ∧ M'.2 5 = M.2 5 ∧ M'.1 6 = M.1 6 ∧ (∀ m, n < m → M'.1 7 m = M.1 7 m) ∧ ∀ j, 600 * (n + 1) ≤ j → M'.2 8 j = M.2 8 j ∧ M'.1 9 j = M.1 9 j
theorem TK.rf {n : Nat} {M : gMem} : TK n M M := ⟨RK.rf, rfl, rfl, rfl, fun _ _ => rfl, fun _ _ => ⟨rfl, rfl⟩⟩
theorem TK.tr {n : Nat} {M M1 M2 : gMem} (h : TK n M M1) (g : TK n M1 M2) : TK n M M2 :=
  ⟨h.1.tr g.1, g.2.1.trans h.2.1, g.2.2.1.trans h.2.2.1, g.2.2.2.1.trans h.2.2.2.1, fun m hm => (g.2.2.2.2.1 m hm).trans (h.2.2.2.2.1 m hm), fun j hj => ⟨(g.2.2.2.2.2 j hj).1.trans (h.2.2.2.2.2 j hj).1, (g.2.2.2.2.2 j hj).2.trans (h.2.2.2.2.2 j hj).2⟩⟩
theorem TK.mono {n m : Nat} {M M' : gMem} (h : TK n M M') (hm : n ≤ m) : TK m M M' :=
  ⟨h.1, h.2.1, h.2.2.1, h.2.2.2.1, fun x hx => h.2.2.2.2.1 x (by omega), fun j hj => h.2.2.2.2.2 j (by omega)⟩
theorem SPR.tk {n : Nat} {M M' : gMem} {R : List P2} (h : SPR M R) (t : TK n M M') : SPR M' R := by
  refine ⟨h.1, by rw [t.2.1]; exact h.2.1, fun i hi => ?_⟩
  rw [t.2.2.1, t.2.2.2.1]; exact h.2.2 i hi
theorem TB.tk {n m : Nat} {M M' : gMem} {F : Nat → Nat} {L : List Nat} (h : TB M F m L) (t : TK n M M') (hm : n < m) : TB M' F m L := by
  refine ⟨h.1, h.2.1, by rw [t.2.2.2.2.1 m hm]; exact h.2.2.1, fun j hj => ?_⟩
  obtain ⟨a, b⟩ := t.2.2.2.2.2 (600 * m + j) (by omega)
  rw [a, b]; exact h.2.2.2 j hj
theorem TBc.tk {n : Nat} {M M' : gMem} {F : Nat → Nat} {R : List P2} {k : Nat} (h : TBc M F R k) (t : TK n M M') (hm : n < 32 - k) : TBc M' F R k := by
  obtain ⟨L, h1, h2⟩ := h
  exact ⟨L, h1.tk t hm, h2⟩
theorem sI_TK7 {n : Nat} {M : gMem} {v : Int32} : TK n M (sI M 7 n v) := ⟨sI_RK (by omega) (by omega), (sI_off _ (by omega)).1, rfl, (sI_off _ (by omega)).1, fun m hm => by rw [sI1, if_neg (by omega)], fun j hj => ⟨rfl, by rw [sI1, if_neg (by omega)]⟩⟩
theorem sI_TK9 {n j : Nat} {M : gMem} {v : Int32} (h : j < 600 * (n + 1)) : TK n M (sI M 9 j v) := ⟨sI_RK (by omega) (by omega), (sI_off _ (by omega)).1, rfl, (sI_off _ (by omega)).1, fun m hm => by rw [sI1, if_neg (by omega)], fun i hi => ⟨rfl, by rw [sI1, if_neg (by omega)]⟩⟩
theorem sJ_TK8 {n j : Nat} {M : gMem} {v : Int64} (h : j < 600 * (n + 1)) : TK n M (sJ M 8 j v) := ⟨sJ_RK (by omega) (by omega), rfl, (sJ_off _ (by omega)).2, rfl, fun m hm => rfl, fun i hi => ⟨by rw [sJ2, if_neg (by omega)], rfl⟩⟩
theorem r_makeSets_in {F : Nat → Nat} (hF : ∀ x, F x ≤ 16) {R : List P2} (hp : pruns F R 4294967296) {k : Nat} (hk : k + 1 ≤ 32) (k11 : gMem → Int32 → Option gMem) : ∀ f i (M : gMem) (L : List Nat), 1 ≤ i → R.length - i < f → SPR M R → (k = 0 ∨ TBc M F R k) → TB M F (31 - k) L → L.length < i → (∀ p, p ∈ L ↔ mixS R i (k + 1) p) → i ≤ R.length → ∃ M', mX8_makeSets_24 k11 f M (nI (31 - k)) (nI i) = k11 M' (nI (31 - k) + -1) ∧ TK (31 - k) M M' ∧ TBc M' F R (k + 1) := by
  intro f
  induction f with
  | zero => intro i M L _ h; omega
  | succ f ih =>
    intro i M L hi hf hS hB hT hl hm hir
    have l300 := hS.1
    have p1 := pw_pos (k + 1)
    have p2 := pw_le hk
    have ps := pw_succ k
    rw [mX8_makeSets_24, hS.2.1]
    by_cases z : i < R.length
    · obtain ⟨e1, e2⟩ := hS.2.2 i z
      have fl := hp.2.2.2.1 i z
      have d := div_in (ck2 R i).1 (k + 1)
      have al : (ck2 R i).1 / 2 ^ (k + 1) * 2 ^ (k + 1) % 2 ^ (k + 1) = 0 := Nat.mul_mod_left _ _
      have alh := al_half al
      have top : (ck2 R i).1 / 2 ^ (k + 1) * 2 ^ (k + 1) + 2 ^ (k + 1) ≤ 4294967296 := al_le al (mod_pw hk (show 4294967296 % 2 ^ 32 = 0 by decide)) (by omega)
      rw [if_neg (nI_ge z (by omega)), ckI (by omega) (by omega), r_size (by omega), show 32 - (31 - k) = k + 1 by omega, Option.bind_some, ckL p1 (by omega), Option.bind_some, nI_cl (by omega), e1, lN_div (by omega) p1 (by omega), lN_mul, nmd, ckI (by omega) (by omega)]
      obtain ⟨p, ep⟩ : ∃ p, p = (ck2 R i).1 / 2 ^ (k + 1) * 2 ^ (k + 1) := ⟨_, rfl⟩
      rw [← ep] at d al alh top ⊢
      have same : (p = (ck2 R i).1 ∨ p ∈ L) → ∀ q, q ∈ L ↔ mixS R (i + 1) (k + 1) q := by
        intro c q
        rw [hm q]
        constructor
        · rintro ⟨j, j1, j2, j3⟩; exact ⟨j, j1, by omega, j3⟩
        · rintro ⟨j, j1, j2, j3, j4⟩
          by_cases e : j = i
          · subst e
            rw [← ep] at j3
            rcases c with c | c
            · exact absurd (j3 ▸ c) j4
            · rw [← j3]; exact (hm p).mp c
          · exact ⟨j, j1, by omega, j3, j4⟩
      by_cases c1 : p = (ck2 R i).1
      · rw [if_pos (by rw [c1]), nmd, nI_1]
        exact ih (i + 1) M L (by omega) (by omega) hS hB hT (by omega) (same (Or.inl c1)) (by omega)
      · rw [if_neg (fun q => c1 ((lN_inj (by omega) (by omega)).mp q))]
        rcases r_mixedAt (n := 31 - k) (by omega) hT (show p < 4294967296 by omega) with ⟨j, j1, j2, j3⟩ | ⟨j1, j2⟩
        · rw [j2, Option.bind_some, if_neg (nI_m1 (by omega)), nmd, nI_1]
          exact ih (i + 1) M L (by omega) (by omega) hS hB hT (by omega) (same (Or.inr (j3 ▸ gn_mem j1))) (by omega)
        · have so : ∀ r, r % 2 ^ k = 0 → r + 2 ^ k ≤ 4294967296 → mX8_setOf M (lN r) (nI (31 - k + 1)) = some (nI (mset F k r)) := by
            intro r r1 r2
            rw [show 31 - k + 1 = 32 - k by omega]
            refine r_setOf hF hS hp (by omega) r2 (fun no => ?_)
            rcases hB with y | ⟨L', y1, y2, y3⟩
            · subst y; exact absurd (one_0 R r) no
            · exact ⟨L', y1, (y3 r).mpr ((mixS_one r1).mp no)⟩
          have z1 := mset_isZ hF k p
          have z2 := mset_isZ hF k (p + 2 ^ k)
          rw [j1, Option.bind_some, if_pos rfl, nI_1, so p alh.1 (by omega), Option.bind_some, r_size (by omega), show 32 - (31 - k + 1) = k by omega, Option.bind_some, lN_add, so (p + 2 ^ k) alh.2 (by omega), Option.bind_some, ckI (by omega) (by omega), nI_cl (by omega), hT.2.2.1, ix600, nmd, ckI (by omega) (by omega), nI_cl (by omega), nmd]
          have joined : ∀ v : Nat, v = mset F (k + 1) p → ∃ M', mX8_makeSets_149 k11 (mX8_makeSets_24 k11 f) (sJ M 8 (600 * (31 - k) + L.length) (lN p)) (nI (31 - k)) (nI i) (nI v) (nI (600 * (31 - k) + L.length)) = k11 M' (nI (31 - k) + -1) ∧ TK (31 - k) M M' ∧ TBc M' F R (k + 1) := by
            intro v ev
            rw [mX8_makeSets_149, ckI (by omega) (by omega), nI_cl (by omega), nmd, ckI (by omega) (by omega), ckI (by omega) (by omega), nI_cl (by omega), nmd, nmd, nI_1]
            obtain ⟨M3, eM3⟩ : ∃ M3, M3 = sI (sI (sJ M 8 (600 * (31 - k) + L.length) (lN p)) 9 (600 * (31 - k) + L.length) (nI v)) 7 (31 - k) ((sI (sJ M 8 (600 * (31 - k) + L.length) (lN p)) 9 (600 * (31 - k) + L.length) (nI v)).1 7 (31 - k) + 1) := ⟨_, rfl⟩
            rw [← eM3]
            have tk : TK (31 - k) M M3 := by
              rw [eM3]
              exact ((sJ_TK8 (by omega)).tr (sI_TK9 (by omega))).tr sI_TK7
            have ln : (L ++ [p]).length = L.length + 1 := by rw [List.length_append]; rfl
            have x7 : M3.1 7 (31 - k) = nI (L ++ [p]).length := by
              rw [eM3, sI1, if_pos ⟨rfl, rfl⟩, sI1, if_neg (by omega), sJ1, hT.2.2.1, nI_1, ln]
            have T3 : TB M3 F (31 - k) (L ++ [p]) := by
              refine ⟨by omega, List.nodup_append.mpr ⟨hT.2.1, by simp, fun a ha b hb => ?_⟩, x7, fun j hj => ?_⟩
              · rw [List.mem_singleton.mp hb]; exact fun e => j2 (e ▸ ha)
              · rw [ln] at hj
                have r8 : M3.2 8 (600 * (31 - k) + j) = if j = L.length then lN p else M.2 8 (600 * (31 - k) + j) := by
                  rw [eM3, sI2, sI2, sJ2]
                  by_cases c : j = L.length
                  · rw [if_pos c, if_pos (by omega)]
                  · rw [if_neg c, if_neg (by omega)]
                have r9 : M3.1 9 (600 * (31 - k) + j) = if j = L.length then nI v else M.1 9 (600 * (31 - k) + j) := by
                  rw [eM3, sI1, if_neg (by omega), sI1, sJ1]
                  by_cases c : j = L.length
                  · rw [if_pos c, if_pos (by omega)]
                  · rw [if_neg c, if_neg (by omega)]
                rw [gn_app j (by omega), r8, r9]
                by_cases c : j = L.length
                · rw [if_pos c, if_pos c, if_neg (by omega)]
                  refine ⟨by omega, rfl, ?_⟩
                  rw [ev, show 32 - (31 - k) = k + 1 by omega]
                · rw [if_neg c, if_neg c, if_pos (by omega)]
                  exact hT.2.2.2 j (by omega)
            obtain ⟨M', r1, r2, r3⟩ := ih (i + 1) M3 (L ++ [p]) (by omega) (by omega) (hS.tk tk) (hB.elim Or.inl (fun y => Or.inr (y.tk tk (by omega)))) T3 (by omega) (fun q => by
              rw [List.mem_append, List.mem_singleton, hm q]
              constructor
              · rintro (⟨j, a1, a2, a3⟩ | a)
                · exact ⟨j, a1, by omega, a3⟩
                · exact ⟨i, hi, by omega, by rw [a]; exact ep.symm, by rw [a]; exact c1⟩
              · rintro ⟨j, a1, a2, a3, a4⟩
                by_cases e : j = i
                · subst e; exact Or.inr (a3.symm.trans ep.symm)
                · exact Or.inl ⟨j, a1, by omega, a3, a4⟩) (by omega)
            exact ⟨M', r1, tk.tr r2, r3⟩
          have mb : mset F (k + 1) p = bth (mset F k p) (mset F k (p + 2 ^ k)) := rfl
          rw [nI_and, nI_or]
          have andl : mset F k p &&& mset F k (p + 2 ^ k) ≤ mset F k p := Nat.and_le_left
          have zz := z1.2
          by_cases c : mset F k p &&& mset F k (p + 2 ^ k) = 0
          · rw [if_pos (by rw [c]; rfl)]
            exact joined _ (by rw [mb]; unfold bth; rw [if_pos c])
          · rw [if_neg (show ¬ nI (mset F k p &&& mset F k (p + 2 ^ k)) = 0 from fun q => c ((nI_inj (b := 0) (by omega) (by omega)).mp q))]
            exact joined _ (by rw [mb]; unfold bth; rw [if_neg c])
    · have ei : i = R.length := by omega
      subst ei
      rw [if_pos (nI_le (by omega) (by omega)), nmd]
      exact ⟨M, rfl, TK.rf, L, by rw [show 32 - (k + 1) = 31 - k by omega]; exact hT, by omega, hm⟩
theorem r_makeSets {F : Nat → Nat} (hF : ∀ x, F x ≤ 16) {M : gMem} {R : List P2} (hS : SPR M R) (hp : pruns F R 4294967296) : ∃ M', mX8_makeSets M = some M' ∧ SPR M' R ∧ RK M M' ∧ ∀ k, 1 ≤ k → k ≤ 32 → TBc M' F R k := by
  have hfu := FU_big
  have l0 : 0 < R.length := by
    rcases Nat.eq_zero_or_pos R.length with z | z
    · have := hp.1.mp z; omega
    · exact z
  have l300 := hS.1
  have lp : ∀ f k (M : gMem), k ≤ 32 → 33 - k < f → SPR M R → (∀ j, 1 ≤ j → j ≤ k → TBc M F R j) → ∃ M', mX8_makeSets_11 f M (nI (32 - k) + -1) = some M' ∧ SPR M' R ∧ RK M M' ∧ ∀ j, 1 ≤ j → j ≤ 32 → TBc M' F R j := by
    intro f
    induction f with
    | zero => intro k M _ h; omega
    | succ f ih =>
      intro k M hk hf hS hT
      rw [mX8_makeSets_11]
      by_cases c : k = 32
      · subst c
        rw [if_pos (show nI (32 - 32) + -1 < 0 by decide)]
        exact ⟨M, rfl, hS, RK.rf, hT⟩
      · have e : nI (32 - k) + -1 = nI (31 - k) := by rw [i32_m1, show (1 : Int32) = nI 1 from rfl, pk_sub (by omega)]; congr 1; omega
        rw [e, if_neg (nI_pos (by omega)), ckI (by omega) (by omega), nI_cl (by omega), nmd]
        have tk : TK (31 - k) M (sI M 7 (31 - k) 0) := sI_TK7
        obtain ⟨M1, r1, r2, r3⟩ := r_makeSets_in hF hp (k := k) (by omega) (mX8_makeSets_11 f) FU 1 (sI M 7 (31 - k) 0) [] (by omega) (by omega) (hS.tk tk) (by
          by_cases k0 : k = 0
          · exact Or.inl k0
          · exact Or.inr ((hT k (by omega) (Nat.le_refl _)).tk tk (by omega))) ⟨by simp, by simp, by rw [sI1, if_pos ⟨rfl, rfl⟩]; rfl, fun j hj => by simp at hj⟩ (by simp) (fun p => by
          constructor
          · intro q; simp at q
          · rintro ⟨j, j1, j2, _⟩; omega) (by omega)
        have r1' : mX8_makeSets_24 (mX8_makeSets_11 f) FU (sI M 7 (31 - k) 0) (nI (31 - k)) 1 = _ := r1
        rw [r1', show 31 - k = 32 - (k + 1) by omega]
        have tk1 := tk.tr r2
        obtain ⟨M2, q1, q2, q3, q4⟩ := ih (k + 1) M1 (by omega) (by omega) (hS.tk tk1) (fun j j1 j2 => by
          by_cases ej : j = k + 1
          · rw [ej]; exact r3
          · exact (hT j j1 (by omega)).tk tk1 (by omega))
        exact ⟨M2, q1, q2, tk1.1.tr q3, q4⟩
  have tk : TK 32 M (sI M 7 32 0) := sI_TK7
  rw [mX8_makeSets, ck_t (show inb (32 : Int32) 33 = true by decide), nmd]
  obtain ⟨M2, q1, q2, q3, q4⟩ := lp FU 0 (sI M 7 32 0) (by omega) (by omega) (hS.tk tk) (fun j j1 j2 => by omega)
  have q1' : mX8_makeSets_11 FU (sI M 7 ((32 : Int32).toNatClampNeg) 0) 31 = some M2 := q1
  exact ⟨M2, q1', q2, tk.1.tr q3, q4⟩
theorem r_setAt {F : Nat → Nat} (hF : ∀ x, F x ≤ 16) {M : gMem} {R : List P2} (hS : SPR M R) (hp : pruns F R 4294967296) (hT : ∀ k, 1 ≤ k → k ≤ 32 → TBc M F R k) {p k : Nat} (hk : k ≤ 32) (hl : p + 2 ^ k ≤ 4294967296) (hal : p % 2 ^ k = 0) : mX8_setOf M (lN p) (nI (32 - k)) = some (nI (mset F k p)) := by
  refine r_setOf hF hS hp hk hl (fun no => ?_)
  by_cases k0 : k = 0
  · subst k0; exact absurd (one_0 R p) no
  · obtain ⟨L, h1, h2, h3⟩ := hT k (by omega) hk
    exact ⟨L, h1, (h3 p).mpr ((mixS_one hal).mp no)⟩
