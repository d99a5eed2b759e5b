/-! SETS as numbers -/
def bth (a b : Nat) : Nat := if a &&& b = 0 then a ||| b else a &&& b
def isZ (s : Nat) : Prop := s ≠ 0 ∧ s < 131072
def hasG (s g : Nat) : Prop := s.testBit g = true
theorem isZ_pow {g : Nat} (h : g ≤ 16) : isZ (2 ^ g) := ⟨Nat.ne_of_gt (pw_pos g), Nat.lt_of_le_of_lt (Nat.pow_le_pow_right (by omega) h) (by decide)⟩
theorem p17 : (131072 : Nat) = 2 ^ 17 := rfl
theorem or_ne {a b : Nat} (h : a ≠ 0) : a ||| b ≠ 0 := fun e => h (by have := @Nat.left_le_or a b; omega)
theorem bth_isZ {a b : Nat} (ha : isZ a) (hb : isZ b) : isZ (bth a b) := by
  unfold bth
  by_cases c : a &&& b = 0
  · rw [if_pos c]
    exact ⟨or_ne ha.1, by rw [p17]; exact Nat.or_lt_two_pow ha.2 hb.2⟩
  · rw [if_neg c]
    exact ⟨c, Nat.lt_of_le_of_lt Nat.and_le_left ha.2⟩
theorem and_zero {a b : Nat} : a &&& b = 0 ↔ ∀ g, ¬ (hasG a g ∧ hasG b g) := by
  constructor
  · intro h g q
    have := congrArg (fun x => x.testBit g) h
    simp only [Nat.testBit_and, Nat.zero_testBit] at this
    rw [show a.testBit g = true from q.1, show b.testBit g = true from q.2] at this
    cases this
  · intro h
    refine Nat.eq_of_testBit_eq (fun g => ?_)
    rw [Nat.testBit_and, Nat.zero_testBit]
    have := h g
    unfold hasG at this
    cases p : a.testBit g <;> cases q : b.testBit g <;> first | rfl | (rw [p, q] at this; exact absurd ⟨rfl, rfl⟩ this)
theorem bth_has {a b g : Nat} : hasG (bth a b) g ↔ (a &&& b = 0 ∧ (hasG a g ∨ hasG b g)) ∨ (a &&& b ≠ 0 ∧ hasG a g ∧ hasG b g) := by
  unfold bth
  by_cases c : a &&& b = 0
  · rw [if_pos c]
    unfold hasG
    rw [Nat.testBit_or, Bool.or_eq_true]
    exact ⟨fun h => Or.inl ⟨c, h⟩, fun h => h.elim (fun q => q.2) (fun q => absurd c q.1)⟩
  · rw [if_neg c]
    unfold hasG
    rw [Nat.testBit_and, Bool.and_eq_true]
    exact ⟨fun h => Or.inr ⟨c, h⟩, fun h => h.elim (fun q => absurd q.1 c) (fun q => q.2)⟩
theorem has_pow {g h : Nat} : hasG (2 ^ g) h ↔ h = g := by
  unfold hasG
  by_cases e : h = g
  · subst e
    exact ⟨fun _ => rfl, fun _ => Nat.testBit_two_pow_self⟩
  · rw [Nat.testBit_two_pow_of_ne (fun q => e q.symm)]
    exact ⟨fun q => (Bool.noConfusion q), fun q => absurd q e⟩
theorem bth_self {a : Nat} (h : a ≠ 0) : bth a a = a := by unfold bth; rw [Nat.and_self, if_neg h]
theorem bth_comm (a b : Nat) : bth a b = bth b a := by unfold bth; rw [Nat.and_comm, Nat.or_comm]
theorem bth_pow {s g : Nat} (h : hasG s g) : bth s (2 ^ g) = 2 ^ g := by
  have c : s &&& 2 ^ g = 2 ^ g := by
    refine Nat.eq_of_testBit_eq (fun j => ?_)
    rw [Nat.testBit_and]
    by_cases e : j = g
    · subst e; rw [show s.testBit j = true from h, Bool.true_and]
    · rw [Nat.testBit_two_pow_of_ne (fun q => e q.symm), Bool.and_false]
  unfold bth
  rw [c, if_neg (Nat.ne_of_gt (pw_pos g))]
theorem bth_up (s g : Nat) : hasG (bth s (2 ^ g)) g := by
  rw [bth_has]
  by_cases c : s &&& 2 ^ g = 0
  · exact Or.inl ⟨c, Or.inr (has_pow.mpr rfl)⟩
  · refine Or.inr ⟨c, ?_, has_pow.mpr rfl⟩
    refine Classical.byContradiction fun q => c (and_zero.mpr fun j hj => ?_)
    have := has_pow.mp hj.2
    subst this; exact q hj.1
theorem has_lt {s g : Nat} (hs : isZ s) (h : hasG s g) : g ≤ 16 := by
  refine Classical.byContradiction fun q => ?_
  have : s.testBit g = false := Nat.testBit_lt_two_pow (Nat.lt_of_lt_of_le hs.2 (by rw [p17]; exact Nat.pow_le_pow_right (by omega) (by omega)))
  unfold hasG at h
  rw [this] at h; cases h
def lowAux (s : Nat) : Nat → Nat → Nat
  | 0, g => g
  | f + 1, g => if s.testBit g = true then g else lowAux s f (g + 1)
/-- the least GOAL of a SET -/
def lowB (s : Nat) : Nat := lowAux s 17 0
theorem lowAux_ok {s : Nat} (hs : isZ s) : ∀ f g, f + g = 17 → (∀ j, j < g → ¬ hasG s j) → hasG s (lowAux s f g) ∧ ∀ j, j < lowAux s f g → ¬ hasG s j := by
  intro f
  induction f with
  | zero =>
    intro g hg h
    exfalso
    refine hs.1 (Nat.eq_of_testBit_eq (fun j => ?_))
    rw [Nat.zero_testBit]
    cases q : s.testBit j with
    | false => rfl
    | true =>
      have := has_lt hs q
      exact absurd q (h j (by omega))
  | succ f ih =>
    intro g hg h
    rw [lowAux]
    by_cases c : s.testBit g = true
    · rw [if_pos c]; exact ⟨c, h⟩
    · rw [if_neg c]
      exact ih (g + 1) (by omega) (fun j hj => by
        by_cases e : j = g
        · subst e; exact c
        · exact h j (by omega))
theorem low_has {s : Nat} (hs : isZ s) : hasG s (lowB s) := (lowAux_ok hs 17 0 rfl (fun j hj => by omega)).1
theorem low_min {s : Nat} (hs : isZ s) {j : Nat} (h : j < lowB s) : ¬ hasG s j := (lowAux_ok hs 17 0 rfl (fun j hj => by omega)).2 j h
theorem low_le {s : Nat} (hs : isZ s) : lowB s ≤ 16 := has_lt hs (low_has hs)
theorem low_pow (g : Nat) (h : g ≤ 16) : lowB (2 ^ g) = g := has_pow.mp (low_has (isZ_pow h))
/-! the machine's side -/
theorem m_both {a b : Nat} (ha : isZ a) (hb : isZ b) : mX5_both (nI a) (nI b) = some (nI (bth a b)) := by
  have h1 := ha.2
  have h3 : a &&& b ≤ a := Nat.and_le_left
  rw [mX5_both, nI_and, nI_or]
  unfold bth
  by_cases c : a &&& b = 0
  · rw [if_pos c, if_pos (by rw [c]; rfl)]
  · rw [if_neg c, if_neg (show ¬ nI (a &&& b) = 0 from fun q => c ((nI_inj (b := 0) (by omega) (by omega)).mp q))]
theorem m_one_fin : ∀ g : Fin 17, (1 : Int32) <<< (nI g.val &&& 31) = nI (2 ^ g.val) := by decide +kernel
theorem m_one {g : Nat} (h : g ≤ 16) : (1 : Int32) <<< (nI g &&& 31) = nI (2 ^ g) := m_one_fin ⟨g, by omega⟩
theorem m_test {s c : Nat} (hs : isZ s) : nI s &&& nI (2 ^ c) = 0 ↔ ¬ hasG s c := by
  have h3 : s &&& 2 ^ c ≤ s := Nat.and_le_left
  have h1 := hs.2
  rw [nI_and, show (0 : Int32) = nI 0 from rfl, nI_inj (by omega) (by omega), and_zero]
  constructor
  · intro h q; exact h c ⟨q, has_pow.mpr rfl⟩
  · intro h g q
    have := has_pow.mp q.2
    subst this; exact h q.1
theorem r_sh_fin : ∀ c : Fin 17, ((nI c.val &&& 31).toBitVec.smod 32).toNat = c.val := by decide +kernel
theorem r_bit {s c : Nat} (hs : isZ s) (hc : c ≤ 16) : (nI s >>> (nI c &&& 31)) &&& (1 : Int32) = if s.testBit c = true then 1 else 0 := by
  have h1 := hs.2
  rw [pk_shrN (by omega) _ c (r_sh_fin ⟨c, by omega⟩), show (1 : Int32) = nI 1 from rfl, nI_and, Nat.and_one_is_mod, Nat.testBit_eq_decide_div_mod_eq]
  by_cases e : s / 2 ^ c % 2 = 1
  · rw [e, if_pos (by simp)]
  · rw [show s / 2 ^ c % 2 = 0 by omega, if_neg (by simp)]; rfl
theorem r_test {s c : Nat} (hs : isZ s) (hc : c ≤ 16) : (nI s >>> (nI c &&& 31)) &&& (1 : Int32) = 1 ↔ hasG s c := by
  rw [r_bit hs hc]
  unfold hasG
  by_cases e : s.testBit c = true
  · rw [if_pos e]; exact ⟨fun _ => e, fun _ => rfl⟩
  · rw [if_neg e]; exact ⟨fun q => absurd q (by decide), fun q => absurd q e⟩
theorem r_lowest {s : Nat} (hs : isZ s) : mX8_lowest (nI s) = some (nI (lowB s)) := by
  have hfu := FU_big
  have lp : ∀ f g, g ≤ lowB s → lowB s - g < f → mX8_lowest_2 f (nI s) (nI g) = some (nI (lowB s)) := by
    have l16 := low_le hs
    intro f
    induction f with
    | zero => intro g _ h; omega
    | succ f ih =>
      intro g hg hf
      rw [mX8_lowest_2, r_bit hs (by omega)]
      by_cases e : g = lowB s
      · have := low_has hs
        rw [← e] at this
        rw [if_pos (show s.testBit g = true from this), if_neg one_ne, e]
      · rw [if_neg (show ¬ s.testBit g = true from low_min hs (by omega)), if_pos rfl, nmd, nI_1]
        exact ih (g + 1) (by omega) (by omega)
  have := low_le hs
  exact lp FU 0 (by omega) (by omega)
theorem m_leastOf {s : Nat} (hs : isZ s) : mX5_leastOf (nI s) = some (nI (lowB s)) := by
  have hfu := FU_big
  have l16 := low_le hs
  have lp : ∀ f g, g ≤ lowB s → lowB s - g < f → mX5_leastOf_2 f (nI s) (nI g) = some (nI (lowB s)) := by
    intro f
    induction f with
    | zero => intro g _ h; omega
    | succ f ih =>
      intro g hg hf
      rw [mX5_leastOf_2, m_one (show g ≤ 16 by omega)]
      by_cases e : g = lowB s
      · by_cases c : g = 16
        · rw [if_pos (show (16 : Int32) ≤ nI g by rw [c]; decide), e]
        · rw [if_neg (show ¬ (16 : Int32) ≤ nI g from nI_ge (show g < (16 : Nat) by omega) (show (16 : Nat) < 2147483648 by decide)), if_neg (fun q => (m_test hs).mp q (by rw [e]; exact low_has hs)), e]
      · rw [if_neg (show ¬ (16 : Int32) ≤ nI g from nI_ge (show g < (16 : Nat) by omega) (show (16 : Nat) < 2147483648 by decide)), if_pos ((m_test hs).mpr (low_min hs (by omega))), nmd, nI_1]
        exact ih (g + 1) (by omega) (by omega)
  exact lp FU 0 (by omega) (by omega)
