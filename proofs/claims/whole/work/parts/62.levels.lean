/-! the LEAST LINES level by level -/
def fm {α : Type} (f : P2 → List α) (H : List P2) : Nat → List α
  | 0 => []
  | i + 1 => fm f H i ++ f (ck2 H i)
theorem fm_take {α : Type} (f : P2 → List α) (H : List P2) : ∀ i, i ≤ H.length → fm f H i = (H.take i).flatMap f := by
  intro i
  induction i with
  | zero => intro _; simp [fm]
  | succ i ih =>
    intro h
    have e : H[i]? = some (ck2 H i) := by
      unfold ck2
      rw [List.getD_eq_getElem?_getD, List.getElem?_eq_getElem (by omega)]; rfl
    rw [fm, ih (by omega), List.take_succ, List.flatMap_append, e]
    simp
theorem fm_all {α : Type} (f : P2 → List α) (H : List P2) : fm f H H.length = H.flatMap f := by
  rw [fm_take f H H.length (Nat.le_refl _), List.take_length]
theorem fm_len {α : Type} (f : P2 → List α) (H : List P2) {i j : Nat} (h : i ≤ j) : (fm f H i).length ≤ (fm f H j).length := by
  induction j with
  | zero => rw [show i = 0 by omega]; exact Nat.le_refl _
  | succ j ih =>
    by_cases e : i = j + 1
    · rw [e]; exact Nat.le_refl _
    · have := ih (by omega)
      rw [fm, List.length_append]; omega
theorem fm_le {α : Type} (f : P2 → List α) (H : List P2) (hf : ∀ q, (f q).length ≤ 1) : ∀ i, (fm f H i).length ≤ i := by
  intro i
  induction i with
  | zero => exact Nat.le_refl _
  | succ i ih => rw [fm, List.length_append]; have := hf (ck2 H i); omega
theorem flat_split {α : Type} (a b : P2 → List α) : ∀ H : List P2, (H.flatMap (fun q => a q ++ b q)).Perm (H.flatMap a ++ H.flatMap b) := by
  intro H
  induction H with
  | nil => exact List.Perm.refl _
  | cons q H ih =>
    rw [List.flatMap_cons, List.flatMap_cons, List.flatMap_cons, List.append_assoc, List.append_assoc]
    refine List.Perm.append_left _ ?_
    refine (List.Perm.append_left _ ih).trans ?_
    rw [← List.append_assoc, ← List.append_assoc]
    exact List.Perm.append_right _ List.perm_append_comm
def oX (F : Nat → Nat) (k : Nat) (q : P2) : List L3 := ownL (mset F k q.1) q.2 q.1 k
noncomputable def sX (F : Nat → Nat) (R : List P2) (k : Nat) (q : P2) : List P2 := if dB (one R q.1 (k + 1)) = true then [] else [(q.1, goes (mset F (k + 1) q.1) q.2), (q.1 + 2 ^ k, goes (mset F (k + 1) q.1) q.2)]
noncomputable def kX (F : Nat → Nat) (R : List P2) (k : Nat) (q : P2) : List P2 := if dB (one R q.1 k ∧ F q.1 = q.2) = true then [] else [q]
def dF (F : Nat → Nat) (k : Nat) (H : List P2) : List L3 := H.flatMap (fun q => mleast F k q.1 q.2)
theorem oX_le {F : Nat → Nat} {k : Nat} (q : P2) : (oX F k q).length ≤ 1 := by
  unfold oX ownL
  split <;> simp
theorem kX_le {F : Nat → Nat} {R : List P2} {k : Nat} (q : P2) : (kX F R k q).length ≤ 1 := by
  unfold kX
  split <;> simp
theorem one_const {F : Nat → Nat} {R : List P2} (hp : pruns F R 4294967296) {p k : Nat} (hl : p + 2 ^ k ≤ 4294967296) (o : one R p k) : ∀ x, p ≤ x → x < p + 2 ^ k → F x = F p := by
  have pos := pw_pos k
  have ex : ∀ x, x < 4294967296 → ∃ i, i < R.length ∧ (ck2 R i).1 ≤ x ∧ x < rend R 4294967296 i := by
    intro x hx
    have l0 : 0 < R.length := by
      rcases Nat.eq_zero_or_pos R.length with z | z
      · have := hp.1.mp z; omega
      · exact z
    have key : ∀ n, n ≤ R.length → (∃ i, i < R.length ∧ (ck2 R i).1 ≤ x ∧ x < rend R 4294967296 i) ∨ ∀ j, j < n → rend R 4294967296 j ≤ x := by
      intro n
      induction n with
      | zero => intro _; exact Or.inr (fun j hj => by omega)
      | succ n ih =>
        intro hn
        rcases ih (by omega) with z | z
        · exact Or.inl z
        · by_cases c : x < rend R 4294967296 n
          · refine Or.inl ⟨n, by omega, ?_, c⟩
            by_cases e : n = 0
            · rw [e, hp.2.1 l0]; exact Nat.zero_le _
            · have := z (n - 1) (by omega)
              unfold rend at this
              rw [if_pos (by omega), show n - 1 + 1 = n by omega] at this
              exact this
          · refine Or.inr (fun j hj => ?_)
            by_cases e : j = n
            · rw [e]; omega
            · exact z j (by omega)
    rcases key R.length (Nat.le_refl _) with z | z
    · exact z
    · have := z (R.length - 1) (by omega)
      unfold rend at this
      rw [if_neg (by omega)] at this
      omega
  obtain ⟨i, i1, i3, i4⟩ := ex p (by omega)
  obtain ⟨j, j1, j3, j4⟩ := ex (p + 2 ^ k - 1) (by omega)
  have e := (one_iff hp i1 j1 i3 i4 j3 j4).mpr o
  subst e
  intro x x1 x2
  rw [hp.2.2.2.2 i i1 x (by omega) (by omega), hp.2.2.2.2 i i1 p (by omega) (by omega)]
/-- a level's nodes -/
def lvO (k : Nat) (H : List P2) : Prop := H.Pairwise (fun a b => a.1 + 2 ^ k ≤ b.1) ∧ ∀ q, q ∈ H → q.1 % 2 ^ k = 0 ∧ q.1 + 2 ^ k ≤ 4294967296 ∧ q.2 ≤ 16
theorem level_eq {F : Nat → Nat} (hF : ∀ x, F x ≤ 16) {R : List P2} (hp : pruns F R 4294967296) {k : Nat} {q : P2} (hl : q.1 + 2 ^ (k + 1) ≤ 4294967296) : mleast F (k + 1) q.1 q.2 = oX F (k + 1) q ++ dF F k (sX F R k q) := by
  unfold sX
  by_cases c : one R q.1 (k + 1)
  · rw [dB_t c, if_pos rfl]
    have con := one_const hp hl c
    rw [mleast_const (hF q.1) (k + 1) q.1 q.2 con]
    unfold oX dF
    rw [mset_const (k + 1) q.1 con]; simp
  · rw [dB_f c, if_neg (by simp)]
    unfold dF oX
    rw [mleast]
    simp
theorem keep_eq {F : Nat → Nat} (hF : ∀ x, F x ≤ 16) {R : List P2} (hp : pruns F R 4294967296) {k : Nat} : ∀ X : List P2, (∀ q, q ∈ X → q.1 + 2 ^ k ≤ 4294967296) → dF F k (X.flatMap (kX F R k)) = dF F k X := by
  intro X
  induction X with
  | nil => intro _; rfl
  | cons q X ih =>
    intro h
    have ih' := ih (fun r hr => h r (List.mem_cons_of_mem _ hr))
    unfold dF at ih' ⊢
    rw [List.flatMap_cons, List.flatMap_append, List.flatMap_cons, ih']
    congr 1
    unfold kX
    by_cases c : one R q.1 k ∧ F q.1 = q.2
    · have con := one_const hp (h q (List.mem_cons_self ..)) c.1
      rw [dB_t c, if_pos rfl, mleast_const (hF q.1) k q.1 q.2 con, c.2, ownL_in (has_pow.mpr rfl)]
      rfl
    · rw [dB_f c, if_neg (by simp)]; simp
theorem level_perm {F : Nat → Nat} (hF : ∀ x, F x ≤ 16) {R : List P2} (hp : pruns F R 4294967296) {k : Nat} {H : List P2} (h : lvO (k + 1) H) (hX : ∀ q, q ∈ H.flatMap (sX F R k) → q.1 + 2 ^ k ≤ 4294967296) : (dF F (k + 1) H).Perm (H.flatMap (oX F (k + 1)) ++ dF F k ((H.flatMap (sX F R k)).flatMap (kX F R k))) := by
  rw [keep_eq hF hp _ hX]
  have e : dF F (k + 1) H = H.flatMap (fun q => oX F (k + 1) q ++ dF F k (sX F R k q)) := by
    unfold dF
    have key : ∀ H : List P2, (∀ q, q ∈ H → q.1 + 2 ^ (k + 1) ≤ 4294967296) → H.flatMap (fun q => mleast F (k + 1) q.1 q.2) = H.flatMap (fun q => oX F (k + 1) q ++ dF F k (sX F R k q)) := by
      intro H
      induction H with
      | nil => intro _; rfl
      | cons q H ih =>
        intro hq
        rw [List.flatMap_cons, List.flatMap_cons, ih (fun r hr => hq r (List.mem_cons_of_mem _ hr)), level_eq hF hp (hq q (List.mem_cons_self ..))]
    exact key H (fun q hq => (h.2 q hq).2.1)
  rw [e]
  have s := flat_split (oX F (k + 1)) (fun q => dF F k (sX F R k q)) H
  refine s.trans (List.Perm.append_left _ ?_)
  have a : H.flatMap (fun q => dF F k (sX F R k q)) = dF F k (H.flatMap (sX F R k)) := by
    unfold dF
    rw [List.flatMap_assoc]
  rw [a]
theorem sX_mem {F : Nat → Nat} {R : List P2} {k : Nat} {q r : P2} (h : r ∈ sX F R k q) : ¬ one R q.1 (k + 1) ∧ (r.1 = q.1 ∨ r.1 = q.1 + 2 ^ k) ∧ r.2 = goes (mset F (k + 1) q.1) q.2 := by
  unfold sX at h
  by_cases c : one R q.1 (k + 1)
  · rw [dB_t c, if_pos rfl] at h; simp at h
  · rw [dB_f c, if_neg (by simp)] at h
    rcases List.mem_cons.mp h with e | e
    · rw [e]; exact ⟨c, Or.inl rfl, rfl⟩
    · rw [List.mem_singleton.mp e]; exact ⟨c, Or.inr rfl, rfl⟩
theorem lvX_ok {F : Nat → Nat} (hF : ∀ x, F x ≤ 16) {R : List P2} {k : Nat} : ∀ {H : List P2}, lvO (k + 1) H → lvO k (H.flatMap (sX F R k)) := by
  have p2 := pw_succ k
  intro H
  induction H with
  | nil => intro _; exact ⟨by simp, by simp⟩
  | cons q H ih =>
    rintro ⟨h1, h2⟩
    have pc := List.pairwise_cons.mp h1
    obtain ⟨i1, i2⟩ := ih ⟨pc.2, fun r hr => h2 r (List.mem_cons_of_mem _ hr)⟩
    have q2 := h2 q (List.mem_cons_self ..)
    have alh := al_half q2.1
    have z16 := goes_le (c := q.2) (mset_isZ hF (k + 1) q.1)
    rw [List.flatMap_cons]
    refine ⟨List.pairwise_append.mpr ⟨?_, i1, fun a ha b hb => ?_⟩, fun r hr => ?_⟩
    · unfold sX
      split
      · simp
      · refine List.pairwise_cons.mpr ⟨fun b hb => ?_, by simp⟩
        rw [List.mem_singleton.mp hb]; exact Nat.le_refl _
    · obtain ⟨_, a1, _⟩ := sX_mem ha
      obtain ⟨w, w1, w2⟩ := List.mem_flatMap.mp hb
      obtain ⟨_, b1, _⟩ := sX_mem w2
      have := pc.1 w w1
      omega
    · rcases List.mem_append.mp hr with z | z
      · obtain ⟨_, a1, a2⟩ := sX_mem z
        refine ⟨?_, by omega, by rw [a2]; exact z16⟩
        rcases a1 with e | e
        · rw [e]; exact alh.1
        · rw [e]; exact alh.2
      · exact i2 r z
theorem lvK_ok {F : Nat → Nat} {R : List P2} {k : Nat} : ∀ {X : List P2}, lvO k X → lvO k (X.flatMap (kX F R k)) := by
  have sub : ∀ {q r : P2}, r ∈ kX F R k q → r = q := by
    intro q r h
    unfold kX at h
    split at h
    · simp at h
    · simpa using h
  intro X
  induction X with
  | nil => intro _; exact ⟨by simp, by simp⟩
  | cons q X ih =>
    rintro ⟨h1, h2⟩
    have pc := List.pairwise_cons.mp h1
    obtain ⟨i1, i2⟩ := ih ⟨pc.2, fun r hr => h2 r (List.mem_cons_of_mem _ hr)⟩
    rw [List.flatMap_cons]
    refine ⟨List.pairwise_append.mpr ⟨?_, i1, fun a ha b hb => ?_⟩, fun r hr => ?_⟩
    · unfold kX
      split <;> simp
    · rw [sub ha]
      obtain ⟨w, w1, w2⟩ := List.mem_flatMap.mp hb
      rw [sub w2]; exact pc.1 w w1
    · rcases List.mem_append.mp hr with z | z
      · rw [sub z]; exact h2 q (List.mem_cons_self ..)
      · exact i2 r z
/-- no more than the table has -/
theorem lvX_len {F : Nat → Nat} {R : List P2} {k : Nat} {L : List Nat} (hL : ∀ p, p ∈ L ↔ mixS R R.length (k + 1) p) {H : List P2} (h : lvO (k + 1) H) : (H.flatMap (sX F R k)).length ≤ 2 * L.length := by
  have pos := pw_pos (k + 1)
  have key : ∀ H : List P2, lvO (k + 1) H → ∃ N : List Nat, N.Nodup ∧ (∀ p, p ∈ N → p ∈ L ∧ ∃ q, q ∈ H ∧ q.1 = p) ∧ (H.flatMap (sX F R k)).length = 2 * N.length := by
    intro H
    induction H with
    | nil => intro _; exact ⟨[], by simp, by simp, rfl⟩
    | cons q H ih =>
      rintro ⟨h1, h2⟩
      have pc := List.pairwise_cons.mp h1
      obtain ⟨N, n1, n2, n3⟩ := ih ⟨pc.2, fun r hr => h2 r (List.mem_cons_of_mem _ hr)⟩
      rw [List.flatMap_cons, List.length_append, n3]
      unfold sX
      by_cases c : one R q.1 (k + 1)
      · rw [dB_t c, if_pos rfl]
        exact ⟨N, n1, fun p hp => ⟨(n2 p hp).1, by obtain ⟨w, w1, w2⟩ := (n2 p hp).2; exact ⟨w, List.mem_cons_of_mem _ w1, w2⟩⟩, by simp⟩
      · rw [dB_f c, if_neg (by simp)]
        refine ⟨q.1 :: N, List.nodup_cons.mpr ⟨fun z => ?_, n1⟩, fun p hp => ?_, by simp; omega⟩
        · obtain ⟨w, w1, w2⟩ := (n2 _ z).2
          have := pc.1 w w1
          omega
        · rcases List.mem_cons.mp hp with e | e
          · rw [e]
            exact ⟨(hL q.1).mpr ((mixS_one (h2 q (List.mem_cons_self ..)).1).mp c), q, List.mem_cons_self .., rfl⟩
          · exact ⟨(n2 p e).1, by obtain ⟨w, w1, w2⟩ := (n2 p e).2; exact ⟨w, List.mem_cons_of_mem _ w1, w2⟩⟩
  obtain ⟨N, n1, n2, n3⟩ := key H h
  have := nd_le n1 (fun p hp => (n2 p hp).1)
  omega
