/-! numbers: ints as nI n, longs as lN n -/
theorem p32 : (2 : Nat) ^ 32 = 4294967296 := rfl
theorem p31 : (2 : Nat) ^ 31 = 2147483648 := rfl
theorem nI_tn {a : Nat} (h : a < 4294967296) : (nI a).toBitVec.toNat = a := pk_tn h
theorem nI_inj {a b : Nat} (ha : a < 4294967296) (hb : b < 4294967296) : nI a = nI b ↔ a = b := by
  refine ⟨fun h => ?_, fun h => by rw [h]⟩
  have := congrArg (fun x : Int32 => x.toBitVec.toNat) h
  simpa [nI_tn ha, nI_tn hb] using this
theorem nI_all (x : Int32) : ∃ a, a < 4294967296 ∧ x = nI a := by
  refine ⟨x.toBitVec.toNat, x.toBitVec.isLt, ?_⟩
  have h : (nI x.toBitVec.toNat).toBitVec = x.toBitVec := BitVec.eq_of_toNat_eq (nI_tn x.toBitVec.isLt)
  exact (Int32.toBitVec_inj.mp h).symm
theorem lN_tn {a : Nat} (h : a < 18446744073709551616) : (lN a).toBitVec.toNat = a := Nat.mod_eq_of_lt h
theorem lN_inj {a b : Nat} (ha : a < 18446744073709551616) (hb : b < 18446744073709551616) : lN a = lN b ↔ a = b := by
  refine ⟨fun h => ?_, fun h => by rw [h]⟩
  have := congrArg (fun x : Int64 => x.toBitVec.toNat) h
  simpa [lN_tn ha, lN_tn hb] using this
theorem lN_lt' {a b : Nat} (ha : a < 9223372036854775808) (hb : b < 9223372036854775808) : lN a < lN b ↔ a < b := pk_lLT ha hb
theorem lN_le' {a b : Nat} (ha : a < 9223372036854775808) (hb : b < 9223372036854775808) : lN a ≤ lN b ↔ a ≤ b := pk_lLE ha hb
theorem wide_eq {a : Nat} (h : a < 4294967296) : ((nI a).toInt64) &&& (4294967295 : Int64) = lN a := by
  apply Int64.toBitVec_inj.mp
  apply BitVec.eq_of_toNat_eq
  rw [lN_tn (by omega)]
  have e1 : ((nI a).toInt64 &&& (4294967295 : Int64)).toBitVec = ((nI a).toBitVec.signExtend 64) &&& 4294967295#64 := rfl
  rw [e1, BitVec.toNat_and]
  have e2 : (4294967295#64).toNat = 2 ^ 32 - 1 := rfl
  rw [e2, Nat.and_two_pow_sub_one_eq_mod, BitVec.toNat_signExtend, BitVec.toNat_setWidth, nI_tn h]
  split <;> omega
theorem m_wide {a : Nat} (h : a < 4294967296) : mX7_wide (nI a) = some (lN a) := by rw [mX7_wide, wide_eq h]
theorem r_number {a : Nat} (h : a < 4294967296) : mX8_number (nI a) = some (lN a) := by rw [mX8_number, wide_eq h]
theorem m_mask_fin : ∀ n : Fin 33, mX7_mask (nI n.val) = some (nI (4294967296 - 2 ^ (32 - n.val))) := by decide +kernel
theorem m_mask {n : Nat} (h : n ≤ 32) : mX7_mask (nI n) = some (nI (4294967296 - 2 ^ (32 - n))) := m_mask_fin ⟨n, by omega⟩
theorem m_bitAt_fin : ∀ n : Fin 32, mX7_bitAt (nI n.val) = some (nI (2 ^ (31 - n.val))) := by decide +kernel
theorem m_bitAt {n : Nat} (h : n < 32) : mX7_bitAt (nI n) = some (nI (2 ^ (31 - n))) := m_bitAt_fin ⟨n, h⟩
theorem r_size_fin : ∀ n : Fin 33, mX8_size (nI n.val) = some (lN (2 ^ (32 - n.val))) := by decide +kernel
theorem r_size {n : Nat} (h : n ≤ 32) : mX8_size (nI n) = some (lN (2 ^ (32 - n))) := r_size_fin ⟨n, by omega⟩
theorem pw_le {k : Nat} (h : k ≤ 32) : 2 ^ k ≤ 4294967296 := by
  have := Nat.pow_le_pow_right (show 0 < 2 by omega) h
  omega
theorem pw_pos (k : Nat) : 0 < 2 ^ k := Nat.two_pow_pos k
/-- the high bits alone -/
theorem and_high {a k : Nat} (ha : a < 4294967296) (hk : k ≤ 32) : a &&& (4294967296 - 2 ^ k) = a / 2 ^ k * 2 ^ k := by
  have hp : (4294967296 : Nat) = 2 ^ (32 - k) * 2 ^ k := by rw [← Nat.pow_add, Nat.sub_add_cancel hk]
  have e1 : 4294967296 - 2 ^ k = (2 ^ (32 - k) - 1) <<< k := by
    rw [Nat.shiftLeft_eq, Nat.sub_mul, ← hp, Nat.one_mul]
  rw [e1, ← Nat.shiftRight_eq_div_pow, ← Nat.shiftLeft_eq]
  apply Nat.eq_of_testBit_eq
  intro i
  rw [Nat.testBit_and, Nat.testBit_shiftLeft, Nat.testBit_shiftLeft, Nat.testBit_shiftRight, Nat.testBit_two_pow_sub_one]
  by_cases hi : k ≤ i
  · have e2 : k + (i - k) = i := by omega
    rw [e2]
    by_cases h32 : i - k < 32 - k
    · simp [hi, h32]
    · have hz : a.testBit i = false := Nat.testBit_lt_two_pow (Nat.lt_of_lt_of_le ha (by rw [← p32]; exact Nat.pow_le_pow_right (by omega) (by omega)))
      simp [hz]
  · simp [hi]
theorem nI_and (a b : Nat) : nI a &&& nI b = nI (a &&& b) := by
  apply Int32.toBitVec_inj.mp
  exact (BitVec.ofNat_and).symm
theorem nI_or (a b : Nat) : nI a ||| nI b = nI (a ||| b) := by
  apply Int32.toBitVec_inj.mp
  exact (BitVec.ofNat_or).symm
theorem nI_xor (a b : Nat) : nI a ^^^ nI b = nI (a ^^^ b) := by
  apply Int32.toBitVec_inj.mp
  exact (BitVec.ofNat_xor).symm
theorem and_mask {a n : Nat} (ha : a < 4294967296) (hn : n ≤ 32) : nI a &&& nI (4294967296 - 2 ^ (32 - n)) = nI (a / 2 ^ (32 - n) * 2 ^ (32 - n)) := by
  rw [nI_and, and_high ha (by omega)]
theorem pre_lt {a k : Nat} (ha : a < 4294967296) : a / 2 ^ k * 2 ^ k < 4294967296 := Nat.lt_of_le_of_lt (Nat.div_mul_le_self a (2 ^ k)) ha
theorem m_begins {x q n : Nat} (hx : x < 4294967296) (hq : q < 4294967296) (hn : n ≤ 32) : mX7_begins (nI x) (nI q) (nI n) = some (if x / 2 ^ (32 - n) * 2 ^ (32 - n) = q then 1 else 0) := by
  rw [mX7_begins, m_mask hn, Option.bind_some, and_mask hx hn]
  by_cases h : x / 2 ^ (32 - n) * 2 ^ (32 - n) = q
  · rw [if_pos h, if_pos (by rw [h])]
  · rw [if_neg h, if_neg (fun e => h ((nI_inj (pre_lt hx) hq).mp e))]
theorem notmask_fin : ∀ n : Fin 33, nI (4294967296 - 2 ^ (32 - n.val)) ^^^ (-1 : Int32) = nI (2 ^ (32 - n.val) - 1) := by decide +kernel
theorem notmask {n : Nat} (h : n ≤ 32) : nI (4294967296 - 2 ^ (32 - n)) ^^^ (-1 : Int32) = nI (2 ^ (32 - n) - 1) := notmask_fin ⟨n, by omega⟩
theorem m_isBeg {a n : Nat} (ha : a < 4294967296) (hn : n ≤ 32) : mX7_isBeginning (nI a) (nI n) = some (if a % 2 ^ (32 - n) = 0 then 1 else 0) := by
  rw [mX7_isBeginning, if_neg (nI_pos (by omega)), if_neg (show ¬ (32 : Int32) < nI n from nI_nlt (a := 32) (b := n) hn (by omega)), m_mask hn, Option.bind_some, notmask hn, nI_and, Nat.and_two_pow_sub_one_eq_mod]
  have hm : a % 2 ^ (32 - n) < 4294967296 := Nat.lt_of_le_of_lt (Nat.mod_le _ _) ha
  by_cases h : a % 2 ^ (32 - n) = 0
  · rw [if_pos h, if_pos (by rw [h]; rfl)]
  · rw [if_neg h, if_neg (show ¬ nI (a % 2 ^ (32 - n)) = 0 from fun e => h ((nI_inj (b := 0) hm (by omega)).mp e))]
theorem inb_nI {i n : Nat} (h : i < n) (hn : n < 2147483648) : inb (nI i) n = true := inb_of (vp_in_nI h hn)
theorem ckI {α : Type} {i n : Nat} {x : Option α} (h : i < n) (hn : n < 2147483648) : ck (inb (nI i) n) x = x := ck_t (inb_nI h hn)
theorem nI_cl {n : Nat} (h : n < 2147483648) : (nI n).toNatClampNeg = n := nI_clamp h
theorem i32_range {x : Int32} {n : Nat} (hn : n < 2147483648) : (x < 0 ∨ nI n < x) ∨ ∃ j, j ≤ n ∧ x = nI j := by
  by_cases h : x < 0
  · exact Or.inl (Or.inl h)
  · by_cases h2 : nI n < x
    · exact Or.inl (Or.inr h2)
    · obtain ⟨j, hj, e⟩ := nI_of2 (nI_toInt hn) h (i32_nlt.mp h2)
      exact Or.inr ⟨j, hj, e⟩
/-- a book's number, or none -/
theorem book_cases (x : Int32) : (∃ b, b < 6 ∧ x = nI b ∧ mX7_isBook x = some 1 ∧ mX8_isBook x = some 1) ∨ (mX7_isBook x = some 0 ∧ mX8_isBook x = some 0) := by
  rcases i32_range (x := x) (n := 5) (by omega) with (h | h) | ⟨j, hj, rfl⟩
  · refine Or.inr ⟨by rw [mX7_isBook, if_pos h], ?_⟩
    rw [mX8_isBook, mX8_lies, if_pos h]; rfl
  · have h5 : (5 : Int32) < x := h
    have h0 : ¬ x < 0 := by
      rw [Int32.lt_iff_toInt_lt] at h5 ⊢
      have e1 : (5 : Int32).toInt = 5 := rfl
      have e0 : (0 : Int32).toInt = 0 := rfl
      omega
    have h6 : (6 : Int32) ≤ x := by
      rw [Int32.lt_iff_toInt_lt] at h5
      rw [Int32.le_iff_toInt_le]
      have e1 : (5 : Int32).toInt = 5 := rfl
      have e0 : (6 : Int32).toInt = 6 := rfl
      omega
    refine Or.inr ⟨by rw [mX7_isBook, if_neg h0, if_pos h6], ?_⟩
    rw [mX8_isBook, mX8_lies, if_neg h0, if_pos h5]; rfl
  · refine Or.inl ⟨j, by omega, rfl, ?_, ?_⟩
    · rcases (show j = 0 ∨ j = 1 ∨ j = 2 ∨ j = 3 ∨ j = 4 ∨ j = 5 by omega) with rfl | rfl | rfl | rfl | rfl | rfl <;> rfl
    · rcases (show j = 0 ∨ j = 1 ∨ j = 2 ∨ j = 3 ∨ j = 4 ∨ j = 5 by omega) with rfl | rfl | rfl | rfl | rfl | rfl <;> rfl
theorem r_lies_in {j n : Nat} (hj : j ≤ n) (hn : n < 2147483648) : mX8_lies (nI j) 0 (nI n) = some 1 := by
  rw [mX8_lies, if_neg (nI_pos (by omega)), if_neg (nI_nlt hj hn)]
theorem r_lies_out {x : Int32} {n : Nat} (h : x < 0 ∨ nI n < x) : mX8_lies x 0 (nI n) = some 0 := by
  rw [mX8_lies]
  by_cases h0 : x < 0
  · rw [if_pos h0]
  · rw [if_neg h0, if_pos (h.resolve_left h0)]
theorem goal_cases (x : Int32) : (∃ g, g ≤ 16 ∧ x = nI g ∧ mX7_isGoal x = some 1 ∧ mX8_lies x 0 16 = some 1) ∨ (mX7_isGoal x = some 0 ∧ mX8_lies x 0 16 = some 0) := by
  rcases i32_range (x := x) (n := 16) (by omega) with h | ⟨j, hj, rfl⟩
  · refine Or.inr ⟨?_, r_lies_out (n := 16) h⟩
    rw [mX7_isGoal]
    by_cases h0 : x < 0
    · rw [if_pos h0]
    · rw [if_neg h0, if_pos (show (16 : Int32) < x from h.resolve_left h0)]
  · refine Or.inl ⟨j, hj, rfl, ?_, r_lies_in (n := 16) hj (by omega)⟩
    rw [mX7_isGoal, if_neg (nI_pos (by omega)), if_neg (show ¬ (16 : Int32) < nI j from nI_nlt (a := 16) hj (by omega))]
theorem lN_div {a b : Nat} (ha : a < 9223372036854775808) (h0 : 0 < b) (hb : b < 9223372036854775808) : lN a / lN b = lN (a / b) := pk_lDiv ha h0 hb
theorem nzL_lN {a : Nat} (h0 : 0 < a) (h : a < 9223372036854775808) : nzL (lN a) = true := decide_eq_true (fun e => by
  have := (lN_inj (b := 0) (by omega) (by omega)).mp e
  omega)
theorem ckL {α : Type} {a : Nat} {x : Option α} (h0 : 0 < a) (h : a < 9223372036854775808) : ck (nzL (lN a)) x = x := ck_t (nzL_lN h0 h)
theorem r_begins {x q n : Nat} (hx : x < 4294967296) (hq : q < 4294967296) (hn : n ≤ 32) : mX8_begins (lN x) (lN q) (nI n) = some (if x / 2 ^ (32 - n) = q / 2 ^ (32 - n) then 1 else 0) := by
  have hp := pw_le (k := 32 - n) (by omega)
  have h0 := pw_pos (32 - n)
  rw [mX8_begins, r_size hn, Option.bind_some, ckL h0 (by omega), Option.bind_some, ckL h0 (by omega), lN_div (by omega) h0 (by omega), lN_div (by omega) h0 (by omega)]
  have d1 : x / 2 ^ (32 - n) < 4294967296 := Nat.lt_of_le_of_lt (Nat.div_le_self _ _) hx
  have d2 : q / 2 ^ (32 - n) < 4294967296 := Nat.lt_of_le_of_lt (Nat.div_le_self _ _) hq
  by_cases h : x / 2 ^ (32 - n) = q / 2 ^ (32 - n)
  · rw [if_pos h, if_pos (by rw [h])]
  · rw [if_neg h, if_neg (fun e => h ((lN_inj (by omega) (by omega)).mp e))]
theorem r_isBeg {a n : Nat} (ha : a < 4294967296) (hn : n ≤ 32) : mX8_isBeginning (nI a) (nI n) = some (if a % 2 ^ (32 - n) = 0 then 1 else 0) := by
  have hp := pw_le (k := 32 - n) (by omega)
  have h0 := pw_pos (32 - n)
  have e32 : mX8_lies (nI n) (0 : Int32) (32 : Int32) = some 1 := r_lies_in (n := 32) hn (by omega)
  rw [mX8_isBeginning, e32, Option.bind_some, if_neg (by decide), r_number ha, Option.bind_some, r_size hn, Option.bind_some, ckL h0 (by omega), pk_lRem (by omega) h0 (by omega)]
  have hm : a % 2 ^ (32 - n) < 4294967296 := Nat.lt_of_le_of_lt (Nat.mod_le _ _) ha
  by_cases h : a % 2 ^ (32 - n) = 0
  · rw [if_pos h, if_pos (by rw [h]; rfl)]
  · rw [if_neg h, if_neg (show ¬ lN (a % 2 ^ (32 - n)) = 0 from fun e => h ((lN_inj (b := 0) (by omega) (by omega)).mp e))]
/-- a beginning, or none: both sides alike, for all ints -/
theorem beg_cases (x y : Int32) : (∃ a n, a < 4294967296 ∧ n ≤ 32 ∧ x = nI a ∧ y = nI n ∧ a % 2 ^ (32 - n) = 0 ∧ mX7_isBeginning x y = some 1 ∧ mX8_isBeginning x y = some 1) ∨ (mX7_isBeginning x y = some 0 ∧ mX8_isBeginning x y = some 0 ∧ ¬ ∃ a n, a < 4294967296 ∧ n ≤ 32 ∧ x = nI a ∧ y = nI n ∧ a % 2 ^ (32 - n) = 0) := by
  obtain ⟨a, ha, rfl⟩ := nI_all x
  rcases i32_range (x := y) (n := 32) (by omega) with h | ⟨n, hn, rfl⟩
  · refine Or.inr ⟨?_, ?_, ?_⟩
    · rw [mX7_isBeginning]
      by_cases h0 : y < 0
      · rw [if_pos h0]
      · rw [if_neg h0, if_pos (show (32 : Int32) < y from h.resolve_left h0)]
    · have e32 : mX8_lies y (0 : Int32) (32 : Int32) = some 0 := r_lies_out (n := 32) h
      rw [mX8_isBeginning, e32, Option.bind_some, if_pos rfl]
    · rintro ⟨a', n', _, hn', _, e, _⟩
      subst e
      rcases h with h | h
      · exact nI_pos (by omega) h
      · exact nI_nlt (a := 32) hn' (by omega) h
  · by_cases h : a % 2 ^ (32 - n) = 0
    · exact Or.inl ⟨a, n, ha, hn, rfl, rfl, h, by rw [m_isBeg ha hn, if_pos h], by rw [r_isBeg ha hn, if_pos h]⟩
    · refine Or.inr ⟨by rw [m_isBeg ha hn, if_neg h], by rw [r_isBeg ha hn, if_neg h], ?_⟩
      rintro ⟨a', n', ha', hn', e1, e2, h'⟩
      have := (nI_inj ha ha').mp e1
      have := (nI_inj (by omega) (by omega)).mp e2
      subst_vars
      exact h h'
