/-! SETS as numbers -/
def bth (a b : Nat) : Nat := if a &&& b = 0 then a ||| b else a &&& b
def isZ (s : Nat) : Prop := s ≠ 0 ∧ s < 131072
def hasG (s g : Nat) : Prop := s.testBit g = true
theorem isZ_pow {g : Nat} (h : g ≤ 16) : isZ (2 ^ g) := ⟨Nat.ne_of_gt (pw_pos g), Nat.lt_of_le_of_lt (Nat.pow_le_pow_right (by omega) h) (by decide)⟩
theorem p17 : (131072 : Nat) = 2 ^ 17 := rfl
theorem or_ne {a b : Nat} (h : a ≠ 0) : a ||| b ≠ 0 := fun e => h (by have := @Nat.left_le_or a b; omega)
theorem bth_isZ {a b : Nat} (ha : isZ a) (hb : isZ b) : isZ (bth a b) := by
  unfold bth
  by_cases c : a &&& b = 0
  · rw [if_pos c]
    exact ⟨or_ne ha.1, by rw [p17]; exact Nat.or_lt_two_pow ha.2 hb.2⟩
  · rw [if_neg c]
    exact ⟨c, Nat.lt_of_le_of_lt Nat.and_le_left ha.2⟩
theorem and_zero {a b : Nat} : a &&& b = 0 ↔ ∀ g, ¬ (hasG a g ∧ hasG b g) := by
  constructor
  · intro h g q
    have := congrArg (fun x => x.testBit g) h
    simp only [Nat.testBit_and, Nat.zero_testBit] at this
    rw [show a.testBit g = true from q.1, show b.testBit g = true from q.2] at this
    cases this
  · intro h
    refine Nat.eq_of_testBit_eq (fun g => ?_)
    rw [Nat.testBit_and, Nat.zero_testBit]
    have := h g
    unfold hasG at this
    cases p : a.testBit g <;> cases q : b.testBit g <;> first | rfl | (rw [p, q] at this; exact absurd ⟨rfl, rfl⟩ this)
theorem bth_has {a b g : Nat} : hasG (bth a b) g ↔ (a &&& b = 0 ∧ (hasG a g ∨ hasG b g)) ∨ (a &&& b ≠ 0 ∧ hasG a g ∧ hasG b g) := by
  unfold bth
  by_cases c : a &&& b = 0
  · rw [if_pos c]
    unfold hasG
    rw [Nat.testBit_or, Bool.or_eq_true]
    exact ⟨fun h => Or.inl ⟨c, h⟩, fun h => h.elim (fun q => q.2) (fun q => absurd c q.1)⟩
  · rw [if_neg c]
    unfold hasG
    rw [Nat.testBit_and, Bool.and_eq_true]
    exact ⟨fun h => Or.inr ⟨c, h⟩, fun h => h.elim (fun q => absurd q.1 c) (fun q => q.2)⟩
theorem has_pow {g h : Nat} : hasG (2 ^ g) h ↔ h = g := by
  unfold hasG
  by_cases e : h = g
  · subst e
    exact ⟨fun _ => rfl, fun _ => Nat.testBit_two_pow_self⟩
  · rw [Nat.testBit_two_pow_of_ne (fun q => e q.symm)]
    exact ⟨fun q => (Bool.noConfusion q), fun q => absurd q e⟩
theorem bth_self {a : Nat} (h : a ≠ 0) : bth a a = a := by unfold bth; rw [Nat.and_self, if_neg h]
theorem bth_comm (a b : Nat) : bth a b = bth b a := by unfold bth; rw [Nat.and_comm, Nat.or_comm]
theorem bth_pow {s g : Nat} (h : hasG s g) : bth s (2 ^ g) = 2 ^ g := by
  have c : s &&& 2 ^ g = 2 ^ g := by
    refine Nat.eq_of_testBit_eq (fun j => ?_)
    rw [Nat.testBit_and]
    by_cases e : j = g
    · subst e; rw [show s.testBit j = true from h, Bool.true_and]
    · rw [Nat.testBit_two_pow_of_ne (fun q => e q.symm), Bool.and_false]
  unfold bth
  rw [c, if_neg (Nat.ne_of_gt (pw_pos g))]
theorem bth_up (s g : Nat) : hasG (bth s (2 ^ g)) g := by
  rw [bth_has]
  by_cases c : s &&& 2 ^ g = 0
  · exact Or.inl ⟨c, Or.inr (has_pow.mpr rfl)⟩
  · refine Or.inr ⟨c, ?_, has_pow.mpr rfl⟩
    refine Classical.byContradiction fun q => c (and_zero.mpr fun j hj => ?_)
    have := has_pow.mp hj.2
    subst this; exact q hj.1
theorem has_lt {s g : Nat} (hs : isZ s) (h : hasG s g) : g ≤ 16 := by
  refine Classical.byContradiction fun q => ?_
  have : s.testBit g = false := Nat.testBit_lt_two_pow (Nat.lt_of_lt_of_le hs.2 (by rw [p17]; exact Nat.pow_le_pow_right (by omega) (by omega)))
  unfold hasG at h
  rw [this] at h; cases h
def lowAux (s : Nat) : Nat → Nat → Nat
  | 0, g => g
  | f + 1, g => if s.testBit g = true then g else lowAux s f (g + 1)
/-- the least GOAL of a SET -/
def lowB (s : Nat) : Nat := lowAux s 17 0
theorem lowAux_ok {s : Nat} (hs : isZ s) : ∀ f g, f + g = 17 → (∀ j, j < g → ¬ hasG s j) → hasG s (lowAux s f g) ∧ ∀ j, j < lowAux s f g → ¬ hasG s j := by
  intro f
  induction f with
  | zero =>
    intro g hg h
    exfalso
    refine hs.1 (Nat.eq_of_testBit_eq (fun j => ?_))
    rw [Nat.zero_testBit]
    cases q : s.testBit j with
    | false => rfl
    | true =>
      have := has_lt hs q
      exact absurd q (h j (by omega))
  | succ f ih =>
    intro g hg h
    rw [lowAux]
    by_cases c : s.testBit g = true
    · rw [if_pos c]; exact ⟨c, h⟩
    · rw [if_neg c]
      exact ih (g + 1) (by omega) (fun j hj => by
        by_cases e : j = g
        · subst e; exact c
        · exact h j (by omega))
theorem low_has {s : Nat} (hs : isZ s) : hasG s (lowB s) := (lowAux_ok hs 17 0 rfl (fun j hj => by omega)).1
theorem low_min {s : Nat} (hs : isZ s) {j : Nat} (h : j < lowB s) : ¬ hasG s j := (lowAux_ok hs 17 0 rfl (fun j hj => by omega)).2 j h
theorem low_le {s : Nat} (hs : isZ s) : lowB s ≤ 16 := has_lt hs (low_has hs)
theorem low_pow (g : Nat) (h : g ≤ 16) : lowB (2 ^ g) = g := has_pow.mp (low_has (isZ_pow h))
/-! the machine's side -/
theorem m_both {a b : Nat} (ha : isZ a) (hb : isZ b) : mX5_both (nI a) (nI b) = some (nI (bth a b)) := by
  have h1 := ha.2
  have h3 : a &&& b ≤ a := Nat.and_le_left
  rw [mX5_both, nI_and, nI_or]
  unfold bth
  by_cases c : a &&& b = 0
  · rw [if_pos c, if_pos (by rw [c]; rfl)]
  · rw [if_neg c, if_neg (show ¬ nI (a &&& b) = 0 from fun q => c ((nI_inj (b := 0) (by omega) (by omega)).mp q))]
theorem m_one_fin : ∀ g : Fin 17, (1 : Int32) <<< (nI g.val &&& 31) = nI (2 ^ g.val) := by decide +kernel
theorem m_one {g : Nat} (h : g ≤ 16) : (1 : Int32) <<< (nI g &&& 31) = nI (2 ^ g) := m_one_fin ⟨g, by omega⟩
theorem m_test {s c : Nat} (hs : isZ s) : nI s &&& nI (2 ^ c) = 0 ↔ ¬ hasG s c := by
  have h3 : s &&& 2 ^ c ≤ s := Nat.and_le_left
  have h1 := hs.2
  rw [nI_and, show (0 : Int32) = nI 0 from rfl, nI_inj (by omega) (by omega), and_zero]
  constructor
  · intro h q; exact h c ⟨q, has_pow.mpr rfl⟩
  · intro h g q
    have := has_pow.mp q.2
    subst this; exact h q.1
theorem r_sh_fin : ∀ c : Fin 17, ((nI c.val &&& 31).toBitVec.smod 32).toNat = c.val := by decide +kernel
theorem r_bit {s c : Nat} (hs : isZ s) (hc : c ≤ 16) : (nI s >>> (nI c &&& 31)) &&& (1 : Int32) = if s.testBit c = true then 1 else 0 := by
  have h1 := hs.2
  rw [pk_shrN (by omega) _ c (r_sh_fin ⟨c, by omega⟩), show (1 : Int32) = nI 1 from rfl, nI_and, Nat.and_one_is_mod, Nat.testBit_eq_decide_div_mod_eq]
  by_cases e : s / 2 ^ c % 2 = 1
  · rw [e, if_pos (by simp)]
  · rw [show s / 2 ^ c % 2 = 0 by omega, if_neg (by simp)]; rfl
theorem r_test {s c : Nat} (hs : isZ s) (hc : c ≤ 16) : (nI s >>> (nI c &&& 31)) &&& (1 : Int32) = 1 ↔ hasG s c := by
  rw [r_bit hs hc]
  unfold hasG
  by_cases e : s.testBit c = true
  · rw [if_pos e]; exact ⟨fun _ => e, fun _ => rfl⟩
  · rw [if_neg e]; exact ⟨fun q => absurd q (by decide), fun q => absurd q e⟩
theorem r_lowest {s : Nat} (hs : isZ s) : mX8_lowest (nI s) = some (nI (lowB s)) := by
  have hfu := FU_big
  have lp : ∀ f g, g ≤ lowB s → lowB s - g < f → mX8_lowest_2 f (nI s) (nI g) = some (nI (lowB s)) := by
    have l16 := low_le hs
    intro f
    induction f with
    | zero => intro g _ h; omega
    | succ f ih =>
      intro g hg hf
      rw [mX8_lowest_2, r_bit hs (by omega)]
      by_cases e : g = lowB s
      · have := low_has hs
        rw [← e] at this
        rw [if_pos (show s.testBit g = true from this), if_neg one_ne, e]
      · rw [if_neg (show ¬ s.testBit g = true from low_min hs (by omega)), if_pos rfl, nmd, nI_1]
        exact ih (g + 1) (by omega) (by omega)
  have := low_le hs
  exact lp FU 0 (by omega) (by omega)
/-- the bits below the lowest one -/
theorem ntz_mask {x r : Nat} (hx : 0 < x) (hl : x < 4294967296) (h1 : x.testBit r = true) (h2 : ∀ j, j < r → x.testBit j = false) : (4294967295 - x) &&& (x - 1) = 2 ^ r - 1 := by
  have hd : x % 2 ^ r = 0 := by
    refine Nat.eq_of_testBit_eq (fun j => ?_)
    rw [Nat.testBit_mod_two_pow, Nat.zero_testBit]
    by_cases c : j < r
    · rw [h2 j c, Bool.and_false]
    · simp [c]
  obtain ⟨m, em⟩ : ∃ m, x = 2 ^ r * m := ⟨x / 2 ^ r, by have := Nat.div_add_mod x (2 ^ r); rw [hd] at this; omega⟩
  have pr := pw_pos r
  have hm : m % 2 = 1 := by
    have : x.testBit r = decide (x / 2 ^ r % 2 = 1) := Nat.testBit_eq_decide_div_mod_eq
    rw [em, Nat.mul_div_cancel_left _ pr, ← em, h1] at this
    exact of_decide_eq_true this.symm
  obtain ⟨u, eu⟩ : ∃ u, m = 2 * u + 1 := ⟨m / 2, by omega⟩
  have e1 : x - 1 = 2 ^ r * (2 * u) + (2 ^ r - 1) := by
    rw [em, eu, Nat.mul_add, Nat.mul_one]; omega
  refine Nat.eq_of_testBit_eq (fun j => ?_)
  have c1 : (4294967295 - x).testBit j = (decide (j < 32) && !(x.testBit j)) := by
    have := @Nat.testBit_two_pow_sub_succ x 32 hl j
    rw [← this]; congr 1; omega
  have c2 : (x - 1).testBit j = if j < r then true else (2 * u).testBit (j - r) := by
    rw [e1, Nat.testBit_two_pow_mul_add _ (by omega)]
    by_cases c : j < r
    · rw [if_pos c, if_pos c, Nat.testBit_two_pow_sub_one]; simp [c]
    · rw [if_neg c, if_neg c]
  have c3 : x.testBit j = if j < r then false else (2 * u + 1).testBit (j - r) := by
    rw [em, eu]
    have := Nat.testBit_two_pow_mul_add (2 * u + 1) (show 0 < 2 ^ r from pr) j
    rw [Nat.add_zero] at this
    rw [this]
    simp
  rw [Nat.testBit_and, c1, c2, c3, Nat.testBit_two_pow_sub_one]
  by_cases c : j < r
  · have r32 : r < 32 := by
      refine Classical.byContradiction fun q => ?_
      have : x.testBit r = false := Nat.testBit_lt_two_pow (Nat.lt_of_lt_of_le hl (by rw [← p32]; exact Nat.pow_le_pow_right (by omega) (by omega)))
      rw [h1] at this; cases this
    have j32 : j < 32 := by omega
    simp [c, j32]
  · rw [if_neg c, if_neg c]
    by_cases e : j = r
    · subst e
      have : (2 * u).testBit 0 = false := by rw [Nat.testBit_zero]; simp
      rw [Nat.sub_self, this]; simp
    · obtain ⟨v, ev⟩ : ∃ v, j - r = v + 1 := ⟨j - r - 1, by omega⟩
      rw [ev, Nat.testBit_succ, Nat.testBit_succ, show (2 * u + 1) / 2 = u by omega, show 2 * u / 2 = u by omega]
      cases u.testBit v <;> simp [c]
def ntzB (y1 : Int32) : Option Int32 := if 0 < y1 then (if y1 ≤ (65536 : Int32) then (mJ6_numberOfTrailingZeros_0f7a4_34 y1 (1 : Int32)) else (nmd ((1 : Int32) + (16 : Int32)) fun y4 => nmd (ush y1 (16 : Int32)) fun y5 => mJ6_numberOfTrailingZeros_0f7a4_34 y5 y4)) else (some (y1 &&& (32 : Int32)))
theorem ntz_fin : ∀ r : Fin 17, ntzB (nI (2 ^ r.val - 1)) = some (nI r.val) := by decide +kernel
theorem not_nI {x : Nat} (h : x < 4294967296) : nI x ^^^ (-1 : Int32) = nI (4294967295 - x) := by
  have : nI x ^^^ (-1 : Int32) = nI (x ^^^ 4294967295) := by rw [← nI_xor]; rfl
  rw [this]
  congr 1
  refine Nat.eq_of_testBit_eq (fun j => ?_)
  rw [Nat.testBit_xor, show (4294967295 : Nat) = 2 ^ 32 - 1 from rfl, Nat.testBit_two_pow_sub_one]
  have := @Nat.testBit_two_pow_sub_succ x 32 h j
  rw [show 2 ^ 32 - 1 - x = 2 ^ 32 - (x + 1) by omega, this]
  by_cases c : j < 32
  · simp [c]
  · have : x.testBit j = false := Nat.testBit_lt_two_pow (Nat.lt_of_lt_of_le h (by rw [← p32]; exact Nat.pow_le_pow_right (by omega) (by omega)))
    simp [c, this]
theorem m_ntz {s : Nat} (hs : isZ s) : mJ6_numberOfTrailingZeros_0f7a4 (nI s) = some (nI (lowB s)) := by
  have h1 := hs.2
  have h0 := hs.1
  rw [mJ6_numberOfTrailingZeros_0f7a4, not_nI (by omega), show (1 : Int32) = nI 1 from rfl, pk_sub (by omega), nI_and, ntz_mask (by omega) (by omega) (low_has hs) (fun j hj => by
    have := low_min hs hj
    unfold hasG at this
    cases q : s.testBit j with
    | false => rfl
    | true => exact absurd q this)]
  exact ntz_fin ⟨lowB s, by have := low_le hs; omega⟩

/-! leading zeros -/
theorem ush_n {n k : Nat} (hn : n < 4294967296) (s : Int32) (hs : ((s.toUInt32 &&& Int32.toUInt32 31).toBitVec % 32).toNat = k) : ush (nI n) s = nI (n / 2 ^ k) := pk_ushrN hn s k hs
def NL (m y : Nat) (o : Option Int32) : Prop := ∃ L, 1 ≤ L ∧ L ≤ m + 1 ∧ o = some (nI (m + 1 - L)) ∧ 2 ^ (L - 1) ≤ y ∧ y < 2 ^ L
theorem nl_up {m y c : Nat} {o : Option Int32} (h : NL m (y / 2 ^ c) o) : NL (m + c) y o := by
  obtain ⟨L, l1, l2, l3, l4, l5⟩ := h
  refine ⟨L + c, by omega, by omega, by rw [l3]; congr 2; omega, ?_, ?_⟩
  · rw [show L + c - 1 = (L - 1) + c by omega, Nat.pow_add]
    exact (Nat.le_div_iff_mul_le (pw_pos c)).mp l4
  · rw [Nat.pow_add]
    exact (Nat.div_lt_iff_lt_mul (pw_pos c)).mp l5
theorem nl_61 {m y : Nat} (hm : 3 ≤ m) (hm2 : m ≤ 31) (h0 : 0 < y) (hy : y < 16) : NL m y (mJ6_numberOfLeadingZeros_0f7a4_61 (nI y) (nI m)) := by
  rw [mJ6_numberOfLeadingZeros_0f7a4_61]
  by_cases c : y < 4
  · rw [if_pos (show nI y < 4 from nI_lt (b := 4) c (by omega)), ush_n (k := 1) (by omega) _ (by decide), pk_sub (by omega)]
    by_cases c2 : y < 2
    · exact ⟨1, by omega, by omega, by congr 2; omega, by omega, by omega⟩
    · exact ⟨2, by omega, by omega, by congr 2; omega, by omega, by omega⟩
  · rw [if_neg (show ¬ nI y < 4 from nI_nlt (b := 4) (by omega) (by omega)), nmd, nmd, ush_n (k := 2) (by omega) _ (by decide), ush_n (k := 1) (by omega) _ (by decide), show (-2 : Int32) = -(nI 2) from rfl, ← Int32.sub_eq_add_neg, pk_sub (by omega), pk_sub (by omega)]
    by_cases c2 : y < 8
    · exact ⟨3, by omega, by omega, by congr 2; omega, by omega, by omega⟩
    · exact ⟨4, by omega, by omega, by congr 2; omega, by omega, by omega⟩
theorem nl_48 {m y : Nat} (hm : 7 ≤ m) (hm2 : m ≤ 31) (h0 : 0 < y) (hy : y < 256) : NL m y (mJ6_numberOfLeadingZeros_0f7a4_48 (nI y) (nI m)) := by
  rw [mJ6_numberOfLeadingZeros_0f7a4_48]
  by_cases c : y < 16
  · rw [if_pos (show nI y < 16 from nI_lt (b := 16) c (by omega))]
    exact nl_61 (by omega) hm2 h0 c
  · rw [if_neg (show ¬ nI y < 16 from nI_nlt (b := 16) (by omega) (by omega)), nmd, nmd, ush_n (k := 4) (by omega) _ (by decide), show (-4 : Int32) = -(nI 4) from rfl, ← Int32.sub_eq_add_neg, pk_sub (by omega)]
    have := nl_up (c := 4) (nl_61 (m := m - 4) (y := y / 2 ^ 4) (by omega) (by omega) (by omega) (by omega))
    rw [show m - 4 + 4 = m by omega] at this
    exact this
theorem nl_33 {m y : Nat} (hm : 15 ≤ m) (hm2 : m ≤ 31) (h0 : 0 < y) (hy : y < 65536) : NL m y (mJ6_numberOfLeadingZeros_0f7a4_33 (nI y) (nI m)) := by
  rw [mJ6_numberOfLeadingZeros_0f7a4_33]
  by_cases c : y < 256
  · rw [if_pos (show nI y < 256 from nI_lt (b := 256) c (by omega))]
    exact nl_48 (by omega) hm2 h0 c
  · rw [if_neg (show ¬ nI y < 256 from nI_nlt (b := 256) (by omega) (by omega)), nmd, nmd, ush_n (k := 8) (by omega) _ (by decide), show (-8 : Int32) = -(nI 8) from rfl, ← Int32.sub_eq_add_neg, pk_sub (by omega)]
    have := nl_up (c := 8) (nl_48 (m := m - 8) (y := y / 2 ^ 8) (by omega) (by omega) (by omega) (by omega))
    rw [show m - 8 + 8 = m by omega] at this
    exact this
theorem m_nlz {x : Nat} (hx : x < 4294967296) : ∃ L, L ≤ 32 ∧ mJ6_numberOfLeadingZeros_0f7a4 (nI x) = some (nI (32 - L)) ∧ x < 2 ^ L ∧ (L = 0 ∨ 2 ^ (L - 1) ≤ x) := by
  rw [mJ6_numberOfLeadingZeros_0f7a4]
  by_cases h0 : x = 0
  · subst h0
    exact ⟨0, by omega, by decide, by decide, Or.inl rfl⟩
  by_cases h31 : x < 2147483648
  · rw [if_pos (show 0 < nI x from nI_lt (a := 0) (by omega) (by omega))]
    have fin : ∀ {o : Option Int32}, NL 31 x o → ∃ L, L ≤ 32 ∧ o = some (nI (32 - L)) ∧ x < 2 ^ L ∧ (L = 0 ∨ 2 ^ (L - 1) ≤ x) := by
      rintro o ⟨L, l1, l2, l3, l4, l5⟩
      exact ⟨L, by omega, l3, l5, Or.inr l4⟩
    by_cases c : x < 65536
    · rw [if_pos (show nI x < 65536 from nI_lt (b := 65536) c (by omega))]
      exact fin (nl_33 (m := 31) (by omega) (by omega) (by omega) c)
    · rw [if_neg (show ¬ nI x < 65536 from nI_nlt (b := 65536) (by omega) (by omega)), nmd, nmd, ush_n (k := 16) (by omega) _ (by decide), show (31 : Int32) + (-16 : Int32) = nI 15 by decide]
      exact fin (nl_up (m := 15) (c := 16) (nl_33 (m := 15) (y := x / 2 ^ 16) (by omega) (by omega) (by omega) (by omega)))
  · have neg : nI x < 0 := by
      rw [Int32.lt_iff_toInt_lt]
      have : (nI x).toInt = (x : Int) - 4294967296 := by
        show (nI x).toBitVec.toInt = _
        rw [BitVec.toInt_eq_toNat_cond, nI_tn hx]
        rw [if_neg (by omega)]; rfl
      rw [this]
      have z : (0 : Int32).toInt = 0 := rfl
      omega
    rw [if_neg (show ¬ 0 < nI x from fun q => by
      rw [Int32.lt_iff_toInt_lt] at q neg
      omega), if_neg (fun q => by rw [q] at neg; exact absurd neg (by decide))]
    exact ⟨32, by omega, rfl, by omega, Or.inr (by omega)⟩
