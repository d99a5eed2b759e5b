/-! what is seen: the reference's nodes -/
def pre (x n : Nat) : Nat := x / 2 ^ (32 - n) * 2 ^ (32 - n)
theorem pre_lt' {x n : Nat} (h : x < 4294967296) : pre x n < 4294967296 := pre_lt h
theorem pre_le {x y n : Nat} (h : x ≤ y) : pre x n ≤ pre y n := Nat.mul_le_mul_right _ (Nat.div_le_div_right h)
theorem pre_zero {x : Nat} (h : x < 4294967296) : pre x 0 = 0 := by
  unfold pre
  rw [show x / 2 ^ (32 - 0) = 0 from Nat.div_eq_of_lt h, Nat.zero_mul]
theorem nd_le {α : Type} [DecidableEq α] : ∀ {S T : List α}, S.Nodup → (∀ q, q ∈ S → q ∈ T) → S.length ≤ T.length := by
  intro S
  induction S with
  | nil => intro T _ _; exact Nat.zero_le _
  | cons a S ih =>
    intro T h1 h2
    have h1' := List.nodup_cons.mp h1
    have ha : a ∈ T := h2 a (List.mem_cons_self ..)
    have q := ih (T := T.erase a) h1'.2 (fun q hq => (List.mem_erase_of_ne (show q ≠ a from fun e => h1'.1 (e ▸ hq))).mpr (h2 q (List.mem_cons_of_mem _ hq)))
    have l := List.length_erase_of_mem ha
    have p : 0 < T.length := List.length_pos_of_mem ha
    rw [List.length_cons]; omega
theorem nd_eq {α : Type} [DecidableEq α] {S T : List α} (h1 : S.Nodup) (h2 : T.Nodup) (h : ∀ q, q ∈ S ↔ q ∈ T) : S.length = T.length :=
  Nat.le_antisymm (nd_le h1 (fun q hq => (h q).mp hq)) (nd_le h2 (fun q hq => (h q).mpr hq))
def addC (S : List P2) (q : P2) : List P2 := if q ∈ S then S else S ++ [q]
theorem addC_mem {S : List P2} {q r : P2} : r ∈ addC S q ↔ r ∈ S ∨ r = q := by
  unfold addC
  by_cases h : q ∈ S
  · rw [if_pos h]
    exact ⟨Or.inl, fun z => z.elim id (fun e => e ▸ h)⟩
  · rw [if_neg h]; simp
theorem addC_nd {S : List P2} {q : P2} (h : S.Nodup) : (addC S q).Nodup := by
  unfold addC
  by_cases c : q ∈ S
  · rw [if_pos c]; exact h
  · rw [if_neg c]
    refine List.nodup_append.mpr ⟨h, by simp, fun a ha b hb => ?_⟩
    have : b = q := by simpa using hb
    exact fun e => c (this ▸ e ▸ ha)
theorem addC_len {S : List P2} {q : P2} : (addC S q).length ≤ S.length + 1 := by
  unfold addC
  by_cases c : q ∈ S
  · rw [if_pos c]; omega
  · rw [if_neg c, List.length_append]; exact Nat.le_refl _
theorem ck2_mem {S : List P2} {i : Nat} (h : i < S.length) : ck2 S i ∈ S := by
  unfold ck2
  rw [List.getD_eq_getElem?_getD, List.getElem?_eq_getElem h]
  exact List.getElem_mem h
theorem mem_ck2 {S : List P2} {q : P2} (h : q ∈ S) : ∃ i, i < S.length ∧ ck2 S i = q := by
  obtain ⟨i, hi, e⟩ := List.getElem_of_mem h
  refine ⟨i, hi, ?_⟩
  unfold ck2
  rw [List.getD_eq_getElem?_getD, List.getElem?_eq_getElem hi]
  exact e
def SN (M : gMem) (S : List P2) : Prop := M.1 0 31 = nI S.length ∧ (∀ i, i < S.length → M.2 26 i = lN (ck2 S i).1 ∧ M.1 27 i = nI (ck2 S i).2) ∧ ∀ q, q ∈ S → q.1 < 4294967296 ∧ q.2 ≤ 32
theorem r_counts_loop {M : gMem} {S : List P2} (h : SN M S) (hl : S.length < 2200) {p n : Nat} (hp : p < 4294967296) (hn : n ≤ 32) : ∀ f i, i ≤ S.length → S.length - i < f → (∀ k, k < i → ck2 S k ≠ (p, n)) → ∃ M', mX8_counts_3 f M (lN p) (nI n) (nI i) = some M' ∧ SN M' (addC S (p, n)) ∧ RK M M' := by
  obtain ⟨h1, h2, h3⟩ := h
  intro f
  induction f with
  | zero => intro i _ hf; omega
  | succ f ih =>
    intro i hi hf hk
    rw [mX8_counts_3, h1]
    by_cases z : i < S.length
    · obtain ⟨e1, e2⟩ := h2 i z
      have w := h3 _ (ck2_mem z)
      have w1 := w.1; have w2 := w.2
      rw [if_neg (nI_ge z (by omega)), ckI (by omega) (by omega), nI_cl (by omega), e1]
      by_cases c1 : (ck2 S i).1 = p
      · rw [if_pos (by rw [c1]), ckI (by omega) (by omega), e2]
        by_cases c2 : (ck2 S i).2 = n
        · rw [if_pos (by rw [c2])]
          have m : (p, n) ∈ S := by
            have := ck2_mem z
            rw [show ck2 S i = (p, n) from Prod.ext c1 c2] at this
            exact this
          refine ⟨M, rfl, ?_, RK.rf⟩
          rw [addC, if_pos m]
          exact ⟨h1, h2, h3⟩
        · rw [if_neg (fun q => c2 ((nI_inj (by omega) (by omega)).mp q)), nmd, nI_1]
          exact ih (i + 1) (by omega) (by omega) (fun k k1 => by
            by_cases e : k = i
            · rw [e]; intro q; exact c2 (by rw [q])
            · exact hk k (by omega))
      · rw [if_neg (fun q => c1 ((lN_inj (by omega) (by omega)).mp q)), nmd, nI_1]
        exact ih (i + 1) (by omega) (by omega) (fun k k1 => by
          by_cases e : k = i
          · rw [e]; intro q; exact c1 (by rw [q])
          · exact hk k (by omega))
    · have ei : i = S.length := by omega
      have hm : (p, n) ∉ S := fun m => by
        obtain ⟨k, k1, k2⟩ := mem_ck2 m
        exact hk k (by omega) k2
      rw [if_pos (nI_le (by omega) (by omega)), ckI (by omega) (by omega), nI_cl (by omega), nmd, sJ1, h1, ckI (by omega) (by omega), nI_cl (by omega), nmd, nmd]
      refine ⟨_, rfl, ?_, ((sJ_RK (by omega) (by omega)).tr (sI_RK (by omega) (by omega))).tr (sI0_RK (by omega))⟩
      rw [addC, if_neg hm]
      refine ⟨?_, fun k hk' => ?_, fun q hq => ?_⟩
      · rw [sI1, if_pos ⟨rfl, rfl⟩, sI1, if_neg (by omega), sJ1, h1, nI_1, List.length_append]; rfl
      · rw [List.length_append, List.length_singleton] at hk'
        rw [sI2, sI2, sJ2, sI1, if_neg (show ¬ (27 = 0 ∧ k = 31) by omega), sI1, sJ1, ck2_app _ (by omega)]
        by_cases e : k = S.length
        · rw [if_pos (show 26 = 26 ∧ k = S.length from ⟨rfl, e⟩), if_pos (show 27 = 27 ∧ k = S.length from ⟨rfl, e⟩), if_neg (show ¬ k < S.length by omega)]; exact ⟨rfl, rfl⟩
        · rw [if_neg (show ¬ (26 = 26 ∧ k = S.length) from fun q => e q.2), if_neg (show ¬ (27 = 27 ∧ k = S.length) from fun q => e q.2), if_pos (show k < S.length by omega)]; exact h2 k (by omega)
      · rcases List.mem_append.mp hq with q1 | q1
        · exact h3 q q1
        · rw [List.mem_singleton.mp q1]; exact ⟨hp, hn⟩
theorem r_counts {M : gMem} {S : List P2} (h : SN M S) (hl : S.length < 2200) {p n : Nat} (hp : p < 4294967296) (hn : n ≤ 32) : ∃ M', mX8_counts M (lN p) (nI n) = some M' ∧ SN M' (addC S (p, n)) ∧ RK M M' := by
  have hf := FU_big
  exact r_counts_loop h hl hp hn FU 0 (by omega) (by omega) (fun k hk => by omega)
/-- the nodes by strides, of the first lines and of some depths of the next -/
def chS (B : List L3) (i t : Nat) (q : P2) : Prop := q = (0, 0) ∨ (∃ j u, j < i ∧ 1 ≤ u ∧ 6 * u < (bk B j).2.1 ∧ q = (pre (bk B j).1 (6 * u), 6 * u)) ∨ ∃ u, 1 ≤ u ∧ u < t ∧ 6 * u < (bk B i).2.1 ∧ q = (pre (bk B i).1 (6 * u), 6 * u)
theorem r_pre {a n : Nat} (ha : a < 4294967296) (hn : n ≤ 32) : lN a / lN (2 ^ (32 - n)) * lN (2 ^ (32 - n)) = lN (pre a n) := by
  have p := pw_pos (32 - n)
  have q := pw_le (show 32 - n ≤ 32 by omega)
  rw [lN_div (by omega) p (by omega), lN_mul]; rfl
theorem r_strides_in {b : Nat} {B : List L3} (hb : b < 6) (hw : wfB B) {i : Nat} (hi : i < B.length) (k8 : gMem → Int32 → Int32 → Option gMem) : ∀ f t (M : gMem) (S : List P2), 1 ≤ t → t ≤ 6 → 6 - t < f → RB M b B → SN M S → S.Nodup → S.length + (7 - t) < 2200 → (∀ q, q ∈ S ↔ chS B i t q) → ∃ M' S', mX8_strides_29 k8 f M (nI b) (nI i) (nI (64 * b + i)) (nI (6 * t)) = k8 M' (nI b) (nI (i + 1)) ∧ SN M' S' ∧ S'.Nodup ∧ S'.length ≤ S.length + (6 - t) ∧ (∀ q, q ∈ S' ↔ chS B (i + 1) 0 q) ∧ RK M M' := by
  have w := hw.1 i hi
  have w1 := w.1; have w2 := w.2.1
  intro f
  induction f with
  | zero => intro t M S _ _ h; omega
  | succ f ih =>
    intro t M S ht1 ht hf hR hS nd hl hm
    have l64 := hR.1
    obtain ⟨e1, e2, e3⟩ := hR.2.2 i hi
    rw [mX8_strides_29, ckJ hb (by omega), nI_cl (by omega), e2]
    by_cases c : 6 * t < (bk B i).2.1
    · have t5 : t ≤ 5 := by omega
      have p := pw_pos (32 - 6 * t)
      have q := pw_le (show 32 - 6 * t ≤ 32 by omega)
      rw [if_neg (nI_ge c (by omega)), ckJ hb (by omega), r_size (by omega), Option.bind_some, ckL p (by omega), Option.bind_some, e1, r_pre w1 (by omega)]
      obtain ⟨M1, f1, f2, f3⟩ := r_counts hS (by omega) (pre_lt' (n := 6 * t) w1) (show 6 * t ≤ 32 by omega)
      have al := @addC_len S (pre (bk B i).1 (6 * t), 6 * t)
      rw [f1, Option.bind_some, nmd, show (6 : Int32) = nI 6 from rfl, nI_add, show 6 * t + 6 = 6 * (t + 1) by omega]
      obtain ⟨M2, S2, g1, g2, g3, g4, g5, g6⟩ := ih (t + 1) M1 _ (by omega) (by omega) (by omega) (hR.rk f3) f2 (addC_nd nd) (by omega) (fun q => by
        rw [addC_mem, hm q]
        unfold chS
        constructor
        · rintro ((z | z | ⟨u, z⟩) | z)
          · exact Or.inl z
          · exact Or.inr (Or.inl z)
          · exact Or.inr (Or.inr ⟨u, z.1, by omega, z.2.2⟩)
          · exact Or.inr (Or.inr ⟨t, ht1, by omega, c, z⟩)
        · rintro (z | z | ⟨u, z⟩)
          · exact Or.inl (Or.inl z)
          · exact Or.inl (Or.inr (Or.inl z))
          · by_cases e : u = t
            · subst e; exact Or.inr z.2.2.2
            · exact Or.inl (Or.inr (Or.inr ⟨u, z.1, by omega, z.2.2⟩)))
      exact ⟨M2, S2, g1, g2, g3, by omega, g5, f3.tr g6⟩
    · rw [if_pos (nI_le (by omega) (by omega)), nmd, nI_1]
      refine ⟨M, S, rfl, hS, nd, by omega, fun q => ?_, RK.rf⟩
      rw [hm q]
      unfold chS
      constructor
      · rintro (z | ⟨j, u, z⟩ | ⟨u, z⟩)
        · exact Or.inl z
        · exact Or.inr (Or.inl ⟨j, u, by omega, z.2⟩)
        · exact Or.inr (Or.inl ⟨i, u, by omega, z.1, z.2.2⟩)
      · rintro (z | ⟨j, u, z⟩ | ⟨u, z⟩)
        · exact Or.inl z
        · by_cases e : j = i
          · subst e; exact Or.inr (Or.inr ⟨u, z.2.1, by omega, z.2.2⟩)
          · exact Or.inr (Or.inl ⟨j, u, by omega, z.2⟩)
        · omega
theorem r_strides_loop {b : Nat} {B : List L3} (hb : b < 6) (hw : wfB B) : ∀ f i (M : gMem) (S : List P2), i ≤ B.length → B.length - i < f → RB M b B → SN M S → S.Nodup → S.length ≤ 1 + 5 * i → (∀ q, q ∈ S ↔ chS B i 0 q) → ∃ M' S', mX8_strides_8 f M (nI b) (nI i) = some M' ∧ SN M' S' ∧ S'.Nodup ∧ S'.length ≤ 400 ∧ (∀ q, q ∈ S' ↔ chS B B.length 0 q) ∧ RK M M' := by
  intro f
  induction f with
  | zero => intro i M S _ h; omega
  | succ f ih =>
    intro i M S hi hf hR hS nd hl hm
    have hfu := FU_big
    have l64 := hR.1
    rw [mX8_strides_8, ckI (n := 6) hb (by omega), nI_cl (by omega), hR.2.1]
    by_cases z : i < B.length
    · rw [if_neg (nI_ge z (by omega)), nmd, ix64]
      obtain ⟨M1, S1, g1, g2, g3, g4, g5, g6⟩ := r_strides_in hb hw z (mX8_strides_8 f) FU 1 M S (by omega) (by omega) (by omega) hR hS nd (by omega) (fun q => by
        rw [hm q]
        unfold chS
        constructor
        · rintro (z | z | ⟨u, z⟩)
          · exact Or.inl z
          · exact Or.inr (Or.inl z)
          · omega
        · rintro (z | z | ⟨u, z⟩)
          · exact Or.inl z
          · exact Or.inr (Or.inl z)
          · omega)
      obtain ⟨M2, S2, k1, k2, k3, k4, k5, k6⟩ := ih (i + 1) M1 S1 (by omega) (by omega) (hR.rk g6) g2 g3 (by omega) g5
      exact ⟨M2, S2, (show _ = _ from g1.trans k1), k2, k3, k4, k5, g6.tr k6⟩
    · have ei : i = B.length := by omega
      subst ei
      rw [if_pos (nI_le (by omega) (by omega))]
      exact ⟨M, S, rfl, hS, nd, by omega, hm, RK.rf⟩
theorem r_strides {M : gMem} {b : Nat} {B : List L3} (hb : b < 6) (hw : wfB B) (hR : RB M b B) : ∃ M' S, mX8_strides (sI M 0 31 0) (nI b) = some M' ∧ SN M' S ∧ S.Nodup ∧ S.length ≤ 400 ∧ (∀ q, q ∈ S ↔ chS B B.length 0 q) ∧ RK M M' := by
  have hfu := FU_big
  have l64 := hR.1
  have r0 : RK M (sI M 0 31 0) := sI0_RK (by omega)
  have s0 : SN (sI M 0 31 0) [] := ⟨by rw [sI1, if_pos ⟨rfl, rfl⟩]; rfl, fun i hi => absurd hi (by simp), fun q hq => absurd hq (by simp)⟩
  rw [mX8_strides]
  obtain ⟨M1, f1, f2, f3⟩ := r_counts s0 (by simp) (p := 0) (n := 0) (by omega) (by omega)
  have f1' : mX8_counts (sI M 0 31 0) 0 0 = some M1 := f1
  rw [f1', Option.bind_some]
  obtain ⟨M2, S2, k1, k2, k3, k4, k5, k6⟩ := r_strides_loop hb hw FU 0 M1 _ (by omega) (by omega) ((hR.rk r0).rk f3) f2 (addC_nd (by simp)) (by exact Nat.le_trans addC_len (by simp)) (fun q => by
    rw [addC_mem]
    unfold chS
    constructor
    · rintro (z | z)
      · simp at z
      · exact Or.inl z
    · rintro (z | ⟨j, u, z⟩ | ⟨u, z⟩)
      · exact Or.inr z
      · omega
      · omega)
  exact ⟨M2, S2, k1, k2, k3, k4, k5, (r0.tr f3).tr k6⟩
