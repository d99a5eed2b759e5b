/-! THE SETS and the LEAST LINES of a way of leading -/
def mset (F : Nat → Nat) : Nat → Nat → Nat
  | 0, p => 2 ^ F p
  | k + 1, p => bth (mset F k p) (mset F k (p + 2 ^ k))
/-- what comes below -/
def goes (s c : Nat) : Nat := if s.testBit c = true then c else lowB s
def ownL (s c p k : Nat) : List L3 := if s.testBit c = true then [] else [(p, 32 - k, lowB s)]
def mleast (F : Nat → Nat) : Nat → Nat → Nat → List L3
  | 0, p, c => ownL (mset F 0 p) c p 0
  | k + 1, p, c => ownL (mset F (k + 1) p) c p (k + 1) ++ (mleast F k p (goes (mset F (k + 1) p) c) ++ mleast F k (p + 2 ^ k) (goes (mset F (k + 1) p) c))
theorem pw_succ (k : Nat) : 2 ^ (k + 1) = 2 ^ k + 2 ^ k := by rw [Nat.pow_succ]; omega
theorem mset_congr {F G : Nat → Nat} : ∀ k p, (∀ x, p ≤ x → x < p + 2 ^ k → F x = G x) → mset F k p = mset G k p := by
  intro k
  induction k with
  | zero => intro p h; rw [mset, mset, h p (Nat.le_refl _) (by simp)]
  | succ k ih =>
    intro p h
    have e := pw_succ k
    have pos := pw_pos k
    rw [mset, mset, ih p (fun x a b => h x a (by omega)), ih (p + 2 ^ k) (fun x a b => h x (by omega) (by omega))]
theorem mleast_congr {F G : Nat → Nat} : ∀ k p c, (∀ x, p ≤ x → x < p + 2 ^ k → F x = G x) → mleast F k p c = mleast G k p c := by
  intro k
  induction k with
  | zero => intro p c h; rw [mleast, mleast, mset_congr 0 p h]
  | succ k ih =>
    intro p c h
    have e := pw_succ k
    have pos := pw_pos k
    rw [mleast, mleast, mset_congr (k + 1) p h, ih p _ (fun x a b => h x a (by omega)), ih (p + 2 ^ k) _ (fun x a b => h x (by omega) (by omega))]
theorem mset_isZ {F : Nat → Nat} (hF : ∀ x, F x ≤ 16) : ∀ k p, isZ (mset F k p) := by
  intro k
  induction k with
  | zero => intro p; exact isZ_pow (hF p)
  | succ k ih => intro p; exact bth_isZ (ih _) (ih _)
theorem mset_const {F : Nat → Nat} {g : Nat} : ∀ k p, (∀ x, p ≤ x → x < p + 2 ^ k → F x = g) → mset F k p = 2 ^ g := by
  intro k
  induction k with
  | zero => intro p h; rw [mset, h p (Nat.le_refl _) (by simp)]
  | succ k ih =>
    intro p h
    have e := pw_succ k
    have pos := pw_pos k
    rw [mset, ih p (fun x a b => h x a (by omega)), ih (p + 2 ^ k) (fun x a b => h x (by omega) (by omega)), bth_self (Nat.ne_of_gt (pw_pos g))]
theorem goes_has {s c : Nat} (hs : isZ s) : hasG s (goes s c) := by
  unfold goes
  by_cases h : s.testBit c = true
  · rw [if_pos h]; exact h
  · rw [if_neg h]; exact low_has hs
theorem goes_le {s c : Nat} (hs : isZ s) : goes s c ≤ 16 := has_lt hs (goes_has hs)
theorem goes_pow {g c : Nat} (hg : g ≤ 16) : goes (2 ^ g) c = g := has_pow.mp (goes_has (isZ_pow hg))
theorem goes_in {s c : Nat} (h : hasG s c) : goes s c = c := if_pos h
theorem ownL_in {s c p k : Nat} (h : hasG s c) : ownL s c p k = [] := if_pos h
theorem ownL_pow {g c p k : Nat} (hg : g ≤ 16) : ownL (2 ^ g) c p k = if c = g then [] else [(p, 32 - k, g)] := by
  unfold ownL
  by_cases e : c = g
  · rw [if_pos e, if_pos (show Nat.testBit (2 ^ g) c = true from has_pow.mpr e)]
  · rw [if_neg e, if_neg (show ¬ Nat.testBit (2 ^ g) c = true from fun q => e (has_pow.mp q)), low_pow g hg]
theorem mleast_const {F : Nat → Nat} {g : Nat} (hg : g ≤ 16) : ∀ k p c, (∀ x, p ≤ x → x < p + 2 ^ k → F x = g) → mleast F k p c = ownL (2 ^ g) c p k := by
  have key : ∀ k p, (∀ x, p ≤ x → x < p + 2 ^ k → F x = g) → mleast F k p g = [] := by
    intro k
    induction k with
    | zero => intro p h; rw [mleast, mset_const 0 p h, ownL_in (has_pow.mpr rfl)]
    | succ k ih =>
      intro p h
      have e := pw_succ k
      have pos := pw_pos k
      rw [mleast, mset_const (k + 1) p h, ownL_in (has_pow.mpr rfl), goes_pow hg, ih p (fun x a b => h x a (by omega)), ih (p + 2 ^ k) (fun x a b => h x (by omega) (by omega))]; rfl
  intro k
  cases k with
  | zero => intro p c h; rw [mleast, mset_const 0 p h]
  | succ k =>
    intro p c h
    have e := pw_succ k
    have pos := pw_pos k
    rw [mleast, mset_const (k + 1) p h, goes_pow hg, key k p (fun x a b => h x a (by omega)), key k (p + 2 ^ k) (fun x a b => h x (by omega) (by omega))]
    simp
/-! how many -/
def cst (s c : Nat) : Nat := if s.testBit c = true then 0 else 1
theorem cst_pos {s c : Nat} (h : hasG s c) : cst s c = 0 := if_pos h
theorem cst_neg {s c : Nat} (h : ¬ hasG s c) : cst s c = 1 := if_neg h
theorem cst_le (s c : Nat) : cst s c ≤ 1 := by unfold cst; split <;> omega
theorem cost_eq {F : Nat → Nat} (hF : ∀ x, F x ≤ 16) : ∀ k p, ∃ m, ∀ c, (mleast F k p c).length = m + cst (mset F k p) c := by
  have own : ∀ s c p k, (ownL s c p k).length = cst s c := by
    intro s c p k
    unfold ownL cst
    by_cases h : s.testBit c = true
    · rw [if_pos h, if_pos h]; rfl
    · rw [if_neg h, if_neg h]; rfl
  intro k
  induction k with
  | zero => intro p; exact ⟨0, fun c => by rw [mleast, own]; omega⟩
  | succ k ih =>
    intro p
    obtain ⟨m1, e1⟩ := ih p
    obtain ⟨m2, e2⟩ := ih (p + 2 ^ k)
    refine ⟨m1 + m2 + (if mset F k p &&& mset F k (p + 2 ^ k) = 0 then 1 else 0), fun c => ?_⟩
    rw [mleast, List.length_append, List.length_append, own, e1, e2]
    have hg := goes_has (c := c) (mset_isZ hF (k + 1) p)
    generalize goes (mset F (k + 1) p) c = c' at hg ⊢
    have hb : hasG (bth (mset F k p) (mset F k (p + 2 ^ k))) c' := hg
    rw [bth_has] at hb
    rcases hb with ⟨z, hb⟩ | ⟨z, h1, h2⟩
    · rw [if_pos z]
      have dis := and_zero.mp z c'
      rcases hb with h1 | h1
      · rw [cst_pos h1, cst_neg (fun q => dis ⟨h1, q⟩)]; omega
      · rw [cst_pos h1, cst_neg (fun q => dis ⟨q, h1⟩)]; omega
    · rw [if_neg z, cst_pos h1, cst_pos h2]; omega
theorem cost_change {F : Nat → Nat} (hF : ∀ x, F x ≤ 16) (k p c c' : Nat) : (mleast F k p c).length ≤ 1 + (mleast F k p c').length := by
  obtain ⟨m, e⟩ := cost_eq hF k p
  rw [e, e]
  have := cst_le (mset F k p) c
  omega
theorem cost_half {F : Nat → Nat} (hF : ∀ x, F x ≤ 16) (k p c : Nat) : (mleast F (k + 1) p c).length ≤ (mleast F k p c).length + (mleast F k (p + 2 ^ k) c).length := by
  have zz := mset_isZ hF (k + 1) p
  obtain ⟨m, e⟩ := cost_eq hF (k + 1) p
  obtain ⟨m1, e1⟩ := cost_eq hF k p
  obtain ⟨m2, e2⟩ := cost_eq hF k (p + 2 ^ k)
  have hb : ∀ g, hasG (mset F (k + 1) p) g ↔ _ := fun g => bth_has (a := mset F k p) (b := mset F k (p + 2 ^ k)) (g := g)
  have hg := low_has zz
  have tot := e (lowB (mset F (k + 1) p))
  rw [mleast, ownL_in hg, goes_in hg, List.nil_append, List.length_append, e1, e2, cst_pos hg] at tot
  generalize lowB (mset F (k + 1) p) = l at hg tot
  rw [e, e1, e2]
  have le := cst_le (mset F (k + 1) p) c
  rcases (hb l).mp hg with ⟨z, h1⟩ | ⟨z, h1, h2⟩
  · have dl := and_zero.mp z l
    have dc := and_zero.mp z c
    have s1 : cst (mset F k p) l + cst (mset F k (p + 2 ^ k)) l = 1 := by
      rcases h1 with h1 | h1
      · rw [cst_pos h1, cst_neg (fun q => dl ⟨h1, q⟩)]
      · rw [cst_pos h1, cst_neg (fun q => dl ⟨q, h1⟩)]
    by_cases c1 : hasG (mset F k p) c
    · rw [cst_pos c1, cst_neg (fun q => dc ⟨c1, q⟩), cst_pos ((hb c).mpr (Or.inl ⟨z, Or.inl c1⟩))]; omega
    · by_cases c2 : hasG (mset F k (p + 2 ^ k)) c
      · rw [cst_neg c1, cst_pos c2, cst_pos ((hb c).mpr (Or.inl ⟨z, Or.inr c2⟩))]; omega
      · rw [cst_neg c1, cst_neg c2]; omega
  · rw [cst_pos h1, cst_pos h2] at tot
    by_cases c1 : hasG (mset F k p) c
    · by_cases c2 : hasG (mset F k (p + 2 ^ k)) c
      · rw [cst_pos c1, cst_pos c2, cst_pos ((hb c).mpr (Or.inr ⟨z, c1, c2⟩))]; omega
      · rw [cst_neg c2]; omega
    · rw [cst_neg c1]; omega
/-! their order -/
theorem al_le {a b m : Nat} (ha : a % m = 0) (hb : b % m = 0) (h : a < b) : a + m ≤ b := by
  have e1 := Nat.div_add_mod a m
  have e2 := Nat.div_add_mod b m
  rw [ha] at e1
  rw [hb] at e2
  have hlt : a / m < b / m := by
    refine Classical.byContradiction fun q => ?_
    have := Nat.mul_le_mul_left m (show b / m ≤ a / m by omega)
    omega
  have := Nat.mul_le_mul_left m (show a / m + 1 ≤ b / m by omega)
  rw [Nat.mul_add, Nat.mul_one] at this
  omega
theorem al_half {p k : Nat} (h : p % 2 ^ (k + 1) = 0) : p % 2 ^ k = 0 ∧ (p + 2 ^ k) % 2 ^ k = 0 := by
  have := mod_pw (show k ≤ k + 1 by omega) h
  exact ⟨this, by rw [Nat.add_mod_right]; exact this⟩
theorem ownL_mem {s c p k : Nat} {q : L3} (h : q ∈ ownL s c p k) : q = (p, 32 - k, lowB s) := by
  unfold ownL at h
  by_cases e : s.testBit c = true
  · rw [if_pos e] at h; simp at h
  · rw [if_neg e] at h; simpa using h
theorem mleast_in {F : Nat → Nat} (hF : ∀ x, F x ≤ 16) : ∀ k p c, k ≤ 32 → p % 2 ^ k = 0 → p + 2 ^ k ≤ 4294967296 → ∀ q, q ∈ mleast F k p c → p ≤ q.1 ∧ en q ≤ p + 2 ^ k ∧ 32 - k ≤ q.2.1 ∧ wfL q := by
  have own : ∀ k p c, k ≤ 32 → p % 2 ^ k = 0 → p + 2 ^ k ≤ 4294967296 → ∀ q, q ∈ ownL (mset F k p) c p k → p ≤ q.1 ∧ en q ≤ p + 2 ^ k ∧ 32 - k ≤ q.2.1 ∧ wfL q := by
    intro k p c hk hp hl q hq
    have pos := pw_pos k
    rw [ownL_mem hq]
    refine ⟨Nat.le_refl _, ?_, Nat.le_refl _, ?_, ?_, low_le (mset_isZ hF k p), ?_⟩
    · unfold en
      show p + 2 ^ (32 - (32 - k)) ≤ _
      rw [show 32 - (32 - k) = k by omega]; exact Nat.le_refl _
    · show p < _; omega
    · show 32 - k ≤ 32; omega
    · show p % 2 ^ (32 - (32 - k)) = 0
      rw [show 32 - (32 - k) = k by omega]; exact hp
  intro k
  induction k with
  | zero => intro p c hk hp hl q hq; exact own 0 p c hk hp hl q hq
  | succ k ih =>
    intro p c hk hp hl q hq
    have e := pw_succ k
    obtain ⟨a1, a2⟩ := al_half hp
    rw [mleast] at hq
    rcases List.mem_append.mp hq with h | h
    · exact own (k + 1) p c hk hp hl q h
    · rcases List.mem_append.mp h with h | h
      · obtain ⟨b1, b2, b3, b4⟩ := ih p _ (by omega) a1 (by omega) q h
        exact ⟨b1, by omega, by omega, b4⟩
      · obtain ⟨b1, b2, b3, b4⟩ := ih (p + 2 ^ k) _ (by omega) a2 (by omega) q h
        exact ⟨by omega, by omega, by omega, b4⟩
theorem mleast_sorted {F : Nat → Nat} (hF : ∀ x, F x ≤ 16) : ∀ k p c, k ≤ 32 → p % 2 ^ k = 0 → p + 2 ^ k ≤ 4294967296 → (mleast F k p c).Pairwise ltL := by
  have own : ∀ s c p k, (ownL s c p k).Pairwise ltL := by
    intro s c p k
    unfold ownL
    split <;> simp
  intro k
  induction k with
  | zero => intro p c _ _ _; exact own _ _ _ _
  | succ k ih =>
    intro p c hk hp hl
    have e := pw_succ k
    have pos := pw_pos k
    obtain ⟨a1, a2⟩ := al_half hp
    rw [mleast]
    refine List.pairwise_append.mpr ⟨own _ _ _ _, List.pairwise_append.mpr ⟨ih p _ (by omega) a1 (by omega), ih (p + 2 ^ k) _ (by omega) a2 (by omega), ?_⟩, ?_⟩
    · intro a ha b hb
      have x := mleast_in hF k p _ (by omega) a1 (by omega) a ha
      have y := mleast_in hF k (p + 2 ^ k) _ (by omega) a2 (by omega) b hb
      have z := x.2.1
      have y1 := y.1
      unfold en at z
      have := pw_pos (32 - a.2.1)
      unfold ltL; omega
    · intro a ha b hb
      rw [ownL_mem ha]
      show p < b.1 ∨ (p = b.1 ∧ 32 - (k + 1) < b.2.1)
      rcases List.mem_append.mp hb with h | h
      · have y := mleast_in hF k p _ (by omega) a1 (by omega) b h
        have y1 := y.1
        have y3 := y.2.2.1
        omega
      · have y := mleast_in hF k (p + 2 ^ k) _ (by omega) a2 (by omega) b h
        have y1 := y.1
        omega
theorem bk_get {L : List L3} {i : Nat} (h : i < L.length) : bk L i = L[i] := by
  unfold bk
  rw [List.getD_eq_getElem?_getD, List.getElem?_eq_getElem h]; rfl
theorem wfB_of {L : List L3} (h1 : ∀ q, q ∈ L → wfL q) (h2 : L.Pairwise ltL) : wfB L := by
  refine ⟨fun i hi => h1 _ (bk_mem hi), fun i j hij hj => ?_⟩
  rw [bk_get (by omega), bk_get hj]
  exact List.pairwise_iff_getElem.mp h2 i j (by omega) hj hij
theorem wfB_to {L : List L3} (h : wfB L) : (∀ q, q ∈ L → wfL q) ∧ L.Pairwise ltL := by
  refine ⟨fun q hq => ?_, List.pairwise_iff_getElem.mpr (fun i j hi hj hij => ?_)⟩
  · obtain ⟨i, hi, e⟩ := List.getElem_of_mem hq
    rw [← e, ← bk_get hi]; exact h.1 i hi
  · rw [← bk_get hi, ← bk_get hj]; exact h.2 i j hij hj
theorem sorted_ext : ∀ {L1 L2 : List L3}, L1.Pairwise ltL → L2.Pairwise ltL → (∀ q, q ∈ L1 ↔ q ∈ L2) → L1 = L2 := by
  intro L1
  induction L1 with
  | nil =>
    intro L2 _ _ h
    cases L2 with
    | nil => rfl
    | cons b t => exact absurd ((h b).mpr (List.mem_cons_self ..)) (by simp)
  | cons a t ih =>
    intro L2 h1 h2 h
    cases L2 with
    | nil => exact absurd ((h a).mp (List.mem_cons_self ..)) (by simp)
    | cons b u =>
      have p1 := List.pairwise_cons.mp h1
      have p2 := List.pairwise_cons.mp h2
      have e : a = b := by
        rcases List.mem_cons.mp ((h a).mp (List.mem_cons_self ..)) with e | e
        · exact e
        · rcases List.mem_cons.mp ((h b).mpr (List.mem_cons_self ..)) with f | f
          · exact f.symm
          · have x := p2.1 a e
            have y := p1.1 b f
            unfold ltL at x y
            omega
      subst e
      have irr : ∀ q : L3, ¬ ltL q q := by intro q z; unfold ltL at z; omega
      rw [ih p1.2 p2.2 (fun q => ?_)]
      constructor
      · intro hq
        rcases List.mem_cons.mp ((h q).mp (List.mem_cons_of_mem _ hq)) with e | e
        · subst e; exact absurd (p1.1 q hq) (irr q)
        · exact e
      · intro hq
        rcases List.mem_cons.mp ((h q).mpr (List.mem_cons_of_mem _ hq)) with e | e
        · subst e; exact absurd (p2.1 q hq) (irr q)
        · exact e
/-! levels with nothing aside -/
/-- the block of a child lies in a greater one, and all else there goes to one GOAL -/
def aside (F : Nat → Nat) (g kq q K r : Nat) : Prop := q % 2 ^ kq = 0 ∧ r % 2 ^ K = 0 ∧ r ≤ q ∧ q + 2 ^ kq ≤ r + 2 ^ K ∧ ∀ x, r ≤ x → x < r + 2 ^ K → ¬ (q ≤ x ∧ x < q + 2 ^ kq) → F x = g
theorem aside_half {F : Nat → Nat} {g kq q K r : Nat} (hk : kq ≤ K) (h : aside F g kq q (K + 1) r) : (aside F g kq q K r ∧ ∀ x, r + 2 ^ K ≤ x → x < r + 2 ^ K + 2 ^ K → F x = g) ∨ (aside F g kq q K (r + 2 ^ K) ∧ ∀ x, r ≤ x → x < r + 2 ^ K → F x = g) := by
  obtain ⟨h1, h2, h3, h4, h5⟩ := h
  have e := pw_succ K
  obtain ⟨a1, a2⟩ := al_half h2
  have b2 : (r + 2 ^ K) % 2 ^ kq = 0 := mod_pw hk a2
  by_cases c : q < r + 2 ^ K
  · have := al_le h1 b2 c
    refine Or.inl ⟨⟨h1, a1, h3, this, fun x x1 x2 x3 => h5 x x1 (by omega) x3⟩, fun x x1 x2 => h5 x (by omega) (by omega) (by omega)⟩
  · refine Or.inr ⟨⟨h1, a2, by omega, by omega, fun x x1 x2 x3 => h5 x (by omega) (by omega) x3⟩, fun x x1 x2 => h5 x (by omega) (by omega) (by omega)⟩
theorem aside_0 {F : Nat → Nat} {g kq q r : Nat} (h : aside F g kq q kq r) : r = q := by
  obtain ⟨h1, h2, h3, h4, h5⟩ := h
  omega
theorem mset_up {F : Nat → Nat} {g kq q : Nat} : ∀ j r, aside F g kq q (kq + j) r → mset F (kq + j) r = if j = 0 then mset F kq q else if j = 1 then bth (mset F kq q) (2 ^ g) else 2 ^ g := by
  intro j
  induction j with
  | zero => intro r h; rw [if_pos rfl, aside_0 h]; rfl
  | succ j ih =>
    intro r h
    have val : ∀ r', mset F (kq + j) r' = (if j = 0 then mset F kq q else if j = 1 then bth (mset F kq q) (2 ^ g) else 2 ^ g) → bth (mset F (kq + j) r') (2 ^ g) = if j + 1 = 0 then mset F kq q else if j + 1 = 1 then bth (mset F kq q) (2 ^ g) else 2 ^ g := by
      intro r' e
      rw [e]
      by_cases j0 : j = 0
      · subst j0; rfl
      · by_cases j1 : j = 1
        · subst j1
          rw [if_neg (by omega), if_pos rfl, if_neg (by omega), if_neg (by omega), bth_pow (bth_up _ _)]
        · rw [if_neg j0, if_neg j1, if_neg (by omega), if_neg (by omega), bth_self (Nat.ne_of_gt (pw_pos g))]
    show bth (mset F (kq + j) r) (mset F (kq + j) (r + 2 ^ (kq + j))) = _
    rcases aside_half (by omega) (show aside F g kq q (kq + j + 1) r from h) with ⟨a, b⟩ | ⟨a, b⟩
    · rw [mset_const _ _ b]; exact val r (ih r a)
    · rw [mset_const _ _ b, bth_comm]; exact val _ (ih _ a)
theorem mleast_upg {F : Nat → Nat} {g kq q : Nat} (hg : g ≤ 16) : ∀ j r, aside F g kq q (kq + j) r → mleast F (kq + j) r g = mleast F kq q g := by
  intro j
  induction j with
  | zero => intro r h; rw [aside_0 h]; rfl
  | succ j ih =>
    intro r h
    have hs : hasG (mset F (kq + (j + 1)) r) g := by
      rw [mset_up (j + 1) r h, if_neg (by omega)]
      split
      · exact bth_up _ _
      · exact has_pow.mpr rfl
    show ownL (mset F (kq + (j + 1)) r) g r (kq + (j + 1)) ++ (mleast F (kq + j) r (goes (mset F (kq + (j + 1)) r) g) ++ mleast F (kq + j) (r + 2 ^ (kq + j)) (goes (mset F (kq + (j + 1)) r) g)) = _
    rw [ownL_in hs, goes_in hs, List.nil_append]
    rcases aside_half (by omega) (show aside F g kq q (kq + j + 1) r from h) with ⟨a, b⟩ | ⟨a, b⟩
    · rw [ih r a, mleast_const hg _ _ _ b, ownL_in (has_pow.mpr rfl), List.append_nil]
    · rw [ih _ a, mleast_const hg _ _ _ b, ownL_in (has_pow.mpr rfl), List.nil_append]
theorem mleast_up2 {F : Nat → Nat} {g kq q : Nat} (hg : g ≤ 16) {j r : Nat} (c : Nat) (h : aside F g kq q (kq + (j + 2)) r) : mleast F (kq + (j + 2)) r c = ownL (2 ^ g) c r (kq + (j + 2)) ++ mleast F kq q g := by
  show ownL (mset F (kq + (j + 2)) r) c r (kq + (j + 2)) ++ (mleast F (kq + (j + 1)) r (goes (mset F (kq + (j + 2)) r) c) ++ mleast F (kq + (j + 1)) (r + 2 ^ (kq + (j + 1))) (goes (mset F (kq + (j + 2)) r) c)) = _
  rw [mset_up (j + 2) r h, if_neg (by omega), if_neg (by omega), goes_pow hg]
  rcases aside_half (by omega) (show aside F g kq q (kq + (j + 1) + 1) r from h) with ⟨a, b⟩ | ⟨a, b⟩
  · rw [mleast_upg hg (j + 1) r a, mleast_const hg _ _ _ b, ownL_in (p := r + 2 ^ (kq + (j + 1))) (has_pow.mpr rfl), List.append_nil]
  · rw [mleast_upg hg (j + 1) _ a, mleast_const hg _ _ _ b, ownL_in (c := g) (has_pow.mpr rfl), List.nil_append]
theorem mleast_up1 {F : Nat → Nat} {g kq q : Nat} (hg : g ≤ 16) {r : Nat} (c : Nat) (h : aside F g kq q (kq + 1) r) : (q = r ∧ mleast F (kq + 1) r c = ownL (bth (mset F kq q) (2 ^ g)) c r (kq + 1) ++ (mleast F kq q (goes (bth (mset F kq q) (2 ^ g)) c) ++ ownL (2 ^ g) (goes (bth (mset F kq q) (2 ^ g)) c) (r + 2 ^ kq) kq)) ∨ (q = r + 2 ^ kq ∧ mleast F (kq + 1) r c = ownL (bth (mset F kq q) (2 ^ g)) c r (kq + 1) ++ (ownL (2 ^ g) (goes (bth (mset F kq q) (2 ^ g)) c) r kq ++ mleast F kq q (goes (bth (mset F kq q) (2 ^ g)) c))) := by
  have e : mset F (kq + 1) r = bth (mset F kq q) (2 ^ g) := by rw [mset_up 1 r h, if_neg (by omega), if_pos rfl]
  rcases aside_half (by omega) (show aside F g kq q (kq + 1) r from h) with ⟨a, b⟩ | ⟨a, b⟩
  · have z := aside_0 a
    refine Or.inl ⟨z.symm, ?_⟩
    rw [mleast, e, mleast_const hg _ _ _ b, z]
  · have z := aside_0 a
    refine Or.inr ⟨z.symm, ?_⟩
    rw [mleast, e, mleast_const hg _ _ _ b, z]
