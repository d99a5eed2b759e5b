/-! cover, piece -/
theorem m_addr_fin : ∀ n : Fin 33, mX0_addressesOf (nI n.val) = some (lN (2 ^ (32 - n.val))) := by decide +kernel
theorem m_addr {n : Nat} (h : n ≤ 32) : mX0_addressesOf (nI n) = some (lN (2 ^ (32 - n))) := m_addr_fin ⟨n, by omega⟩
theorem lN_and (a b : Nat) : lN a &&& lN b = lN (a &&& b) := by
  apply Int64.toBitVec_inj.mp
  exact (BitVec.ofNat_and).symm
/-- a BEGINNING of n bits at x lies within what ends ahead of E -/
def fits_ (n x E : Nat) : Prop := x % 2 ^ (32 - n) = 0 ∧ x + 2 ^ (32 - n) ≤ E
theorem m_fewest_loop {x E : Nat} (hx : x < E) (hE : E ≤ 4294967296) : ∀ f i, i ≤ 32 → 32 - i < f → (∀ j, j < i → ¬ fits_ j x E) → ∃ n, mX0_fewestBits_3 f (lN x) (lN (E - 1)) (nI i) = some (nI n) ∧ n ≤ 32 ∧ fits_ n x E ∧ ∀ j, j < n → ¬ fits_ j x E := by
  intro f
  induction f with
  | zero => intro i _ h; omega
  | succ f ih =>
    intro i hi hf hj
    rw [mX0_fewestBits_3]
    by_cases z : i = 32
    · rw [if_pos (show (32 : Int32) ≤ nI i from nI_le (a := 32) (by omega) (by omega))]
      exact ⟨32, rfl, by omega, ⟨Nat.mod_one x, hx⟩, fun j h => hj j (by omega)⟩
    · have hp := pw_le (k := 32 - i) (by omega)
      have h0 := pw_pos (32 - i)
      rw [if_neg (show ¬ (32 : Int32) ≤ nI i from nI_ge (b := 32) (by omega) (by omega)), m_addr (by omega), Option.bind_some, lN_m1 h0, lN_and, Nat.and_two_pow_sub_one_eq_mod]
      have hm : x % 2 ^ (32 - i) < 4294967296 := Nat.lt_of_lt_of_le (Nat.mod_lt _ h0) hp
      have nx : ¬ fits_ i x E → ∃ n, mX0_fewestBits_3 f (lN x) (lN (E - 1)) (nI (i + 1)) = some (nI n) ∧ n ≤ 32 ∧ fits_ n x E ∧ ∀ j, j < n → ¬ fits_ j x E := fun q => ih (i + 1) (by omega) (by omega) (fun j h => by
        by_cases e : j = i
        · rw [e]; exact q
        · exact hj j (by omega))
      by_cases c : x % 2 ^ (32 - i) = 0
      · rw [if_pos (show lN (x % 2 ^ (32 - i)) = 0 from by rw [c]; rfl), lN_add, lN_m1 (by omega)]
        by_cases d : x + 2 ^ (32 - i) ≤ E
        · rw [if_neg (fun q => by have := (lN_lt' (by omega) (by omega)).mp q; omega)]
          exact ⟨i, rfl, by omega, ⟨c, d⟩, hj⟩
        · rw [if_pos ((lN_lt' (by omega) (by omega)).mpr (by omega)), nmd, nI_1]
          exact nx (fun q => d q.2)
      · rw [if_neg (show ¬ lN (x % 2 ^ (32 - i)) = 0 from fun q => c ((lN_inj (b := 0) (by omega) (by omega)).mp q)), nmd, nI_1]
        exact nx (fun q => c q.1)
theorem m_fewest {x E : Nat} (hx : x < E) (hE : E ≤ 4294967296) : ∃ n, mX0_fewestBits (lN x) (lN (E - 1)) = some (nI n) ∧ n ≤ 32 ∧ fits_ n x E ∧ ∀ j, j < n → ¬ fits_ j x E := by
  have hfu := FU_big
  exact m_fewest_loop hx hE FU 0 (by omega) (by omega) (fun j h => by omega)
/-- how many pieces may come yet -/
def Bd (m x E : Nat) : Prop := E ≤ x ∨ (∃ b, b ≤ m ∧ x % 2 ^ b = 0 ∧ E < x + 2 ^ b) ∨ ∃ a, a ≤ 31 ∧ 0 < x ∧ x % 2 ^ a = 0 ∧ 62 ≤ m + a
theorem mod_pw {x a b : Nat} (h : a ≤ b) (hx : x % 2 ^ b = 0) : x % 2 ^ a = 0 := by
  have d1 : 2 ^ a ∣ 2 ^ b := Nat.pow_dvd_pow 2 h
  exact Nat.mod_eq_zero_of_dvd (Nat.dvd_trans d1 (Nat.dvd_of_mod_eq_zero hx))
theorem pw_lt {a b : Nat} (h : a < b) : 2 ^ a < 2 ^ b := Nat.pow_lt_pow_right (by omega) h
theorem Bd_step {m x E k : Nat} (hx : x < E) (hE : E ≤ 4294967296) (hk : k ≤ 32) (h1 : x % 2 ^ k = 0) (h2 : x + 2 ^ k ≤ E) (hmax : ∀ j, k < j → j ≤ 32 → ¬ (x % 2 ^ j = 0 ∧ x + 2 ^ j ≤ E)) (hb : Bd m x E) : 1 ≤ m ∧ Bd (m - 1) (x + 2 ^ k) E := by
  have h0 := pw_pos k
  have hs : 2 ^ (k + 1) = 2 * 2 ^ k := by rw [Nat.pow_succ]; omega
  have hmod : (x + 2 ^ k) % 2 ^ k = 0 := by rw [Nat.add_mod_right]; exact h1
  -- the two ways that a larger piece is refused
  have caseA : ¬ x % 2 ^ (k + 1) = 0 → (x + 2 ^ k) % 2 ^ (k + 1) = 0 := by
    intro q
    obtain ⟨c, hc⟩ := Nat.dvd_of_mod_eq_zero h1
    rw [hs] at q ⊢
    have hc2 : c % 2 = 1 := by
      by_cases z : c % 2 = 1
      · exact z
      · exfalso
        apply q
        have : c = 2 * (c / 2) := by omega
        rw [hc, this]
        have e : 2 ^ k * (2 * (c / 2)) = 2 * 2 ^ k * (c / 2) := by rw [← Nat.mul_assoc, Nat.mul_comm (2 ^ k) 2]
        rw [e]
        exact Nat.mul_mod_right _ _
    have : c + 1 = 2 * (c / 2 + 1) := by omega
    have e : x + 2 ^ k = 2 * 2 ^ k * (c / 2 + 1) := by
      rw [hc]
      have : 2 ^ k * c + 2 ^ k = 2 ^ k * (c + 1) := by rw [Nat.mul_add, Nat.mul_one]
      rw [this, ‹c + 1 = _›, ← Nat.mul_assoc, Nat.mul_comm (2 ^ k) 2]
    rw [e]
    exact Nat.mul_mod_right _ _
  rcases hb with hb | ⟨b, b1, b2, b3⟩ | ⟨a, a1, a2, a3, a4⟩
  · omega
  · have kb : k < b := by
      rcases Nat.lt_or_ge k b with q | q
      · exact q
      · have := Nat.pow_le_pow_right (show 0 < 2 by omega) q
        omega
    refine ⟨by omega, Or.inr (Or.inl ⟨k, by omega, hmod, ?_⟩)⟩
    by_cases k32 : k = 32
    · subst k32
      have : (2 : Nat) ^ 32 = 4294967296 := rfl
      omega
    · have q := hmax (k + 1) (by omega) (by omega)
      have z : x % 2 ^ (k + 1) = 0 := mod_pw (by omega) b2
      have : ¬ x + 2 ^ (k + 1) ≤ E := fun w => q ⟨z, w⟩
      omega
  · have k31 : k ≤ 31 := by
      rcases Nat.lt_or_ge k 32 with q | q
      · omega
      · have : k = 32 := by omega
        subst this
        have e : (2 : Nat) ^ 32 = 4294967296 := rfl
        omega
    have q := hmax (k + 1) (by omega) (by omega)
    by_cases z : x % 2 ^ (k + 1) = 0
    · have w : ¬ x + 2 ^ (k + 1) ≤ E := fun w => q ⟨z, w⟩
      have k30 : k ≤ 30 := by
        by_cases y : k = 31
        · subst y
          have d := Nat.le_of_dvd a2 (Nat.dvd_of_mod_eq_zero z)
          have e : (2 : Nat) ^ (31 + 1) = 4294967296 := rfl
          omega
        · omega
      refine ⟨by omega, Or.inr (Or.inl ⟨k, by omega, hmod, by omega⟩)⟩
    · have ak : a ≤ k := by
        rcases Nat.lt_or_ge k a with q | q
        · exact absurd (mod_pw (show k + 1 ≤ a by omega) a3) z
        · exact q
      have e := caseA z
      by_cases k30 : k ≤ 30
      · exact ⟨by omega, Or.inr (Or.inr ⟨k + 1, by omega, by omega, e, by omega⟩)⟩
      · have : k = 31 := by omega
        subst this
        refine ⟨by omega, Or.inl ?_⟩
        obtain ⟨c, hc⟩ := Nat.dvd_of_mod_eq_zero h1
        have e31 : (2 : Nat) ^ 31 = 2147483648 := rfl
        rw [e31] at hc ⊢
        have : 1 ≤ c := by
          rcases Nat.eq_zero_or_pos c with q | q
          · rw [q] at hc; omega
          · exact q
        omega
/-- one piece more, on both sides -/
theorem r_cover_inner {M : gMem} {x E n : Nat} {cv : List P2} (hx : x < E) (hE : E ≤ 4294967296) (hn : n ≤ 32) (h1 : fits_ n x E) (h2 : ∀ j, j < n → ¬ fits_ j x E) (hc : cvR M cv) (hl : cv.length < 64) (k : gMem → Int64 → Int64 → Option (Int32 × gMem)) : ∀ f i, i ≤ n → n - i < f → mX8_cover_35 k f M (lN x) (lN (E - 1)) (nI i) = k (sI (sI (sJ M 17 cv.length (lN x)) 18 cv.length (nI n)) 0 18 (nI (cv.length + 1))) (lN (x + 2 ^ (32 - n))) (lN (E - 1)) := by
  intro f
  induction f with
  | zero => intro i _ h; omega
  | succ f ih =>
    intro i hi hf
    have hp := pw_le (k := 32 - i) (by omega)
    have h0 := pw_pos (32 - i)
    rw [mX8_cover_35, r_size (by omega), Option.bind_some, ckL h0 (by omega), pk_lRem (by omega) h0 (by omega)]
    have hm : x % 2 ^ (32 - i) < 4294967296 := Nat.lt_of_lt_of_le (Nat.mod_lt _ h0) hp
    by_cases z : i = n
    · subst z
      rw [if_pos (show lN (x % 2 ^ (32 - i)) = 0 from by rw [h1.1]; rfl), Option.bind_some, lN_add, lN_m1 (by omega), if_pos ((lN_le' (by omega) (by omega)).mpr (by have := h1.2; omega)), hc.1, ckI (by omega) (by omega), nI_cl (by omega), nmd, sJ1, hc.1, ckI (by omega) (by omega), nI_cl (by omega), nmd, nmd]
      have e : (sI (sJ M 17 cv.length (lN x)) 18 cv.length (nI i)).1 0 18 = nI cv.length := by rw [sI1, if_neg (by omega), sJ1, hc.1]
      rw [e, Option.bind_some, nmd, nI_1, lN_add]
    · have nf := h2 i (by omega)
      have nx := ih (i + 1) (by omega) (by omega)
      by_cases c : x % 2 ^ (32 - i) = 0
      · rw [if_pos (show lN (x % 2 ^ (32 - i)) = 0 from by rw [c]; rfl), Option.bind_some, lN_add, lN_m1 (by omega), if_neg (fun q => nf ⟨c, by have := (lN_le' (by omega) (by omega)).mp q; omega⟩), nmd, nI_1]
        exact nx
      · rw [if_neg (show ¬ lN (x % 2 ^ (32 - i)) = 0 from fun q => c ((lN_inj (b := 0) (by omega) (by omega)).mp q)), nmd, nI_1]
        exact nx
/-- of the class: what lies beside the COVER stays; of the reference: likewise -/
def cvKC (M M' : gMem) : Prop := Off 50 3 M M'
def cvKR (M M' : gMem) : Prop := (∀ k, k ≠ 0 → k ≠ 17 → k ≠ 18 → M'.1 k = M.1 k ∧ M'.2 k = M.2 k) ∧ ∀ j, j ≠ 18 → M'.1 0 j = M.1 0 j
theorem cover_loop {E : Nat} (hE : E ≤ 4294967296) : ∀ m f g x (MC MR : gMem) (cv : List P2), m < f → m < g → x ≤ E → Bd m x E → cv.length + m ≤ 62 → cvC MC cv → cvR MR cv → cvW cv → 0 < E → ∃ MC' MR' cv', mX0_make_8 f MC (lN (E - 1)) (lN x) = some MC' ∧ mX8_cover_25 g MR (lN x) (lN (E - 1)) = some (nI cv'.length, MR') ∧ cvC MC' cv' ∧ cvR MR' cv' ∧ cvW cv' ∧ cvKC MC MC' ∧ cvKR MR MR' := by
  have hfu := FU_big
  intro m
  induction m with
  | zero =>
    intro f g x MC MR cv hf hg hx hb hl hC hR hW h0
    have e : x = E := by
      rcases Nat.lt_or_ge x E with q | q
      · obtain ⟨n, -, hn, hfi, hmin⟩ := m_fewest q hE
        have := Bd_step q hE (k := 32 - n) (by omega) hfi.1 hfi.2 (fun j j1 j2 z => hmin (32 - j) (by omega) (by unfold fits_; rw [show 32 - (32 - j) = j by omega]; exact z)) hb
        omega
      · omega
    subst e
    obtain ⟨f, rfl⟩ : ∃ f', f = f' + 1 := ⟨f - 1, by omega⟩
    obtain ⟨g, rfl⟩ : ∃ g', g = g' + 1 := ⟨g - 1, by omega⟩
    have hlt : lN (x - 1) < lN x := (lN_lt' (by omega) (by omega)).mpr (by omega)
    rw [mX0_make_8, mX8_cover_25, if_pos hlt, if_pos hlt, hR.1]
    exact ⟨MC, MR, cv, rfl, rfl, hC, hR, hW, Off.rf, ⟨fun _ _ _ _ => ⟨rfl, rfl⟩, fun _ _ => rfl⟩⟩
  | succ m ih =>
    intro f g x MC MR cv hf hg hx hb hl hC hR hW h0
    obtain ⟨f, rfl⟩ : ∃ f', f = f' + 1 := ⟨f - 1, by omega⟩
    obtain ⟨g, rfl⟩ : ∃ g', g = g' + 1 := ⟨g - 1, by omega⟩
    rw [mX0_make_8, mX8_cover_25]
    by_cases q : x < E
    · obtain ⟨n, en, hn, hfi, hmin⟩ := m_fewest q hE
      have st := Bd_step q hE (k := 32 - n) (by omega) hfi.1 hfi.2 (fun j j1 j2 z => hmin (32 - j) (by omega) (by unfold fits_; rw [show 32 - (32 - j) = j by omega]; exact z)) hb
      have hp := pw_le (k := 32 - n) (by omega)
      have hlt : ¬ lN (E - 1) < lN x := fun z => by have := (lN_lt' (by omega) (by omega)).mp z; omega
      rw [if_neg hlt, if_neg hlt, hC.2.1, if_neg (show ¬ (62 : Int32) ≤ nI cv.length from nI_ge (b := 62) (by omega) (by omega)), en, Option.bind_some, ckI (by omega) (by omega), nI_cl (by omega), nmd, sJ1, hC.2.1, ckI (by omega) (by omega), nI_cl (by omega), nmd, nmd]
      have e2 : (sI (sJ MC 51 cv.length (lN x)) 52 cv.length (nI n)).1 50 2 = nI cv.length := by rw [sI1, if_neg (by omega), sJ1, hC.2.1]
      rw [e2, m_addr hn, Option.bind_some, nmd, nI_1, lN_add, show (0 : Int32) = nI 0 from rfl, r_cover_inner q hE hn hfi hmin hR (by omega) _ FU 0 (by omega) (by omega)]
      have len : (cv ++ [(x, n)]).length = cv.length + 1 := by rw [List.length_append]; rfl
      have oC : Off 50 3 MC (sI (sI (sJ MC 51 cv.length (lN x)) 52 cv.length (nI n)) 50 2 (nI (cv.length + 1))) := ((sJ_Off (by omega)).tr (sI_Off (by omega))).tr (sI_Off (by omega))
      obtain ⟨MC', MR', cv', f1, f2, f3, f4, f5, f6, f7⟩ := ih f g (x + 2 ^ (32 - n)) (sI (sI (sJ MC 51 cv.length (lN x)) 52 cv.length (nI n)) 50 2 (nI (cv.length + 1))) (sI (sI (sJ MR 17 cv.length (lN x)) 18 cv.length (nI n)) 0 18 (nI (cv.length + 1))) (cv ++ [(x, n)]) (by omega) (by omega) hfi.2 (by have := st.2; rw [Nat.add_sub_cancel] at this; exact this) (by rw [len]; omega) ⟨by rw [len]; omega, by rw [sI1, if_pos ⟨rfl, rfl⟩, len], fun i hi => by
          rw [len] at hi
          rw [sI2, sI2, sJ2, sI1, if_neg (show ¬ (52 = 50 ∧ i = 2) by omega), sI1, sJ1, ck2_app i (by omega)]
          by_cases k1 : i < cv.length
          · rw [if_neg (show ¬ (51 = 51 ∧ i = cv.length) by omega), if_neg (show ¬ (52 = 52 ∧ i = cv.length) by omega), if_pos k1]
            exact hC.2.2 i k1
          · rw [if_pos (show 51 = 51 ∧ i = cv.length by omega), if_pos (show 52 = 52 ∧ i = cv.length by omega), if_neg k1]
            exact ⟨rfl, rfl⟩⟩ ⟨by rw [sI1, if_pos ⟨rfl, rfl⟩, len], fun i hi => by
          rw [len] at hi
          rw [sI2, sI2, sJ2, sI1, if_neg (show ¬ (18 = 0 ∧ i = 18) by omega), sI1, sJ1, ck2_app i (by omega)]
          by_cases k1 : i < cv.length
          · rw [if_neg (show ¬ (17 = 17 ∧ i = cv.length) by omega), if_neg (show ¬ (18 = 18 ∧ i = cv.length) by omega), if_pos k1]
            exact hR.2 i k1
          · rw [if_pos (show 17 = 17 ∧ i = cv.length by omega), if_pos (show 18 = 18 ∧ i = cv.length by omega), if_neg k1]
            exact ⟨rfl, rfl⟩⟩ (fun i hi => by
          rw [len] at hi
          rw [ck2_app i (by omega)]
          by_cases k1 : i < cv.length
          · rw [if_pos k1]; exact hW i k1
          · rw [if_neg k1]; exact ⟨by show x < _; omega, hn⟩) h0
      refine ⟨MC', MR', cv', f1, f2, f3, f4, f5, oC.tr f6, ⟨fun k k0 k17 k18 => ?_, fun j hj => ?_⟩⟩
      · have := f7.1 k k0 k17 k18
        rw [this.1, this.2, (sI_off k k0).1, (sI_off k k0).2, (sI_off k k18).1, (sI_off k k18).2, (sJ_off k k17).1, (sJ_off k k17).2]
        exact ⟨rfl, rfl⟩
      · rw [f7.2 j hj, sI1, if_neg (by omega), sI1, if_neg (by omega), sJ1]
    · have e : x = E := by omega
      subst e
      have hlt : lN (x - 1) < lN x := (lN_lt' (by omega) (by omega)).mpr (by omega)
      rw [if_pos hlt, if_pos hlt, hR.1]
      exact ⟨MC, MR, cv, rfl, rfl, hC, hR, hW, Off.rf, ⟨fun _ _ _ _ => ⟨rfl, rfl⟩, fun _ _ => rfl⟩⟩
theorem wyC.keep2 {M M' : gMem} {wy : Option (List L3 × List L3 × List L3)} (h : wyC M wy) (s : Off 50 3 M M') : wyC M' wy := by
  have k54 : ∀ B, LB M 54 B → LB M' 54 B := fun B h => h.off s (by omega)
  have k58 : ∀ B, LB M 58 B → LB M' 58 B := fun B h => h.off s (by omega)
  have k62 : ∀ B, LB M 62 B → LB M' 62 B := fun B h => h.off s (by omega)
  obtain ⟨⟨S, h1⟩, ⟨U, h2⟩, ⟨V, h3⟩, h4⟩ := h
  refine ⟨⟨S, k54 S h1⟩, ⟨U, k58 U h2⟩, ⟨V, k62 V h3⟩, ?_⟩
  match wy, h4 with
  | none, h4 => show M'.1 53 4 = -1; rw [(s 53 (by omega)).1]; exact h4
  | some (S, U, V), h4 => exact ⟨by rw [(s 53 (by omega)).1]; exact h4.1, k54 _ h4.2.1, k58 _ h4.2.2.1, k62 _ h4.2.2.2⟩
theorem wyR.keep2 {M M' : gMem} {wy : Option (List L3 × List L3 × List L3)} (h : wyR M wy) (s : cvKR M M') : wyR M' wy := by
  match wy, h with
  | none, h => show M'.1 0 21 = 0; rw [s.2 21 (by omega)]; exact h
  | some (S, U, V), h =>
    obtain ⟨h1, h2, h3, h4, h5, h6⟩ := h
    have e : ∀ k, 19 ≤ k → M'.1 k = M.1 k ∧ M'.2 k = M.2 k := fun k hk => s.1 k (by omega) (by omega) (by omega)
    refine ⟨by rw [s.2 21 (by omega)]; exact h1, by rw [s.2 22 (by omega)]; exact h2, by rw [s.2 27 (by omega)]; exact h3, fun i hi => ?_, fun i hi => ?_, fun i hi => ?_⟩
    · rw [(e 19 (by omega)).1, (e 20 (by omega)).2, (e 21 (by omega)).1, (e 22 (by omega)).1]
      exact h4 i hi
    · rw [(e 19 (by omega)).1, (e 20 (by omega)).2, (e 21 (by omega)).1, (e 22 (by omega)).1]
      exact h5 i hi
    · rw [(e 23 (by omega)).2, (e 24 (by omega)).1, (e 25 (by omega)).1]
      exact h6 i hi
theorem op_cover {MC MR : gMem} (h : Inv MC MR) (x1 x2 : Int32) : ∃ r MC' MR', mX7_cover MC x1 x2 = some (r, MC') ∧ mX8_cover MR x1 x2 = some (r, MR') ∧ Inv MC' MR' := by
  have hfu := FU_big
  obtain ⟨a, ha, rfl⟩ := nI_all x1
  obtain ⟨b, hb, rfl⟩ := nI_all x2
  rw [mX7_cover, mX8_cover, m_wide ha, m_wide hb, r_number ha, r_number hb]
  simp only [Option.bind_some]
  by_cases c : a ≤ b
  · have hle : lN a ≤ lN b := (lN_le' (by omega) (by omega)).mpr c
    rw [if_pos hle, if_pos hle, mX0_make, nmd, nmd]
    obtain ⟨bks, hbk, h26, h30, ⟨cv, c1, c2, c3⟩, wy, w1, w2, w3⟩ := h
    have oC : Off 50 3 MC (sI MC 50 2 0) := sI_Off (by omega)
    have bd : Bd 62 a (b + 1) := by
      by_cases z : a = 0
      · refine Or.inr (Or.inl ⟨33, by omega, by rw [z], ?_⟩)
        have : (2 : Nat) ^ 33 = 8589934592 := rfl
        omega
      · exact Or.inr (Or.inr ⟨0, by omega, by omega, Nat.mod_one a, by omega⟩)
    obtain ⟨MC', MR', cv', f1, f2, f3, f4, f5, f6, f7⟩ := cover_loop (E := b + 1) (by omega) 62 FU FU a (sI MC 50 2 0) (sI MR 0 18 0) [] (by omega) (by omega) (by omega) bd (by simp) ⟨Nat.zero_le _, by rw [sI1, if_pos ⟨rfl, rfl⟩]; rfl, fun i hi => absurd hi (Nat.not_lt_zero i)⟩ ⟨by rw [sI1, if_pos ⟨rfl, rfl⟩]; rfl, fun i hi => absurd hi (Nat.not_lt_zero i)⟩ (fun i hi => absurd hi (Nat.not_lt_zero i)) (by omega)
    rw [Nat.add_sub_cancel] at f1 f2
    rw [f1, f2, Option.bind_some, f3.2.1]
    have oo : Off 50 3 MC MC' := oC.tr f6
    have kr : cvKR MR MR' := ⟨fun k k0 k17 k18 => ⟨(f7.1 k k0 k17 k18).1.trans (sI_off k k0).1, (f7.1 k k0 k17 k18).2.trans (sI_off k k0).2⟩, fun j hj => by rw [f7.2 j hj, sI1, if_neg (by omega)]⟩
    refine ⟨_, _, _, rfl, rfl, bks, ⟨fun b h6 => (hbk.1 b h6).off oo (by omega), fun b h6 => ?_, hbk.2.2⟩, ?_, ?_, ⟨cv', f3, f4, f5⟩, wy, w1.keep2 oo, w2.keep2 kr, w3⟩
    · obtain ⟨r1, r2, r3⟩ := hbk.2.1 b h6
      refine ⟨r1, by rw [(kr.1 1 (by omega) (by omega) (by omega)).1]; exact r2, fun i hi => ?_⟩
      rw [(kr.1 2 (by omega) (by omega) (by omega)).2, (kr.1 3 (by omega) (by omega) (by omega)).1, (kr.1 4 (by omega) (by omega) (by omega)).1]
      exact r3 i hi
    · obtain ⟨B, q⟩ := h26; exact ⟨B, q.off oo (by omega)⟩
    · obtain ⟨B, q⟩ := h30; exact ⟨B, q.off oo (by omega)⟩
  · have hle : ¬ lN a ≤ lN b := fun q => c ((lN_le' (by omega) (by omega)).mp q)
    rw [if_neg hle, if_neg hle]
    exact ⟨_, _, _, rfl, rfl, h⟩
theorem op_piece {MC MR : gMem} (h : Inv MC MR) (x1 x2 : Int32) : ∃ r, mX7_piece MC x1 x2 = some r ∧ mX8_piece MR x1 x2 = some r := by
  obtain ⟨bks, hbk, h26, h30, ⟨cv, c1, c2, c3⟩, -⟩ := h
  have l := c1.1
  rw [mX7_piece, mX8_piece, mX0_tell, c1.2.1, c2.1]
  rcases lies_len (x := x1) (n := cv.length) (by omega) with ⟨i, hi, rfl, e⟩ | ⟨hx, e⟩
  · rw [e, Option.bind_some, if_neg one_ne, if_neg (nI_pos (by omega)), if_pos (nI_lt hi (by omega)), ckI (by omega) (by omega), ckI (by omega) (by omega), ckI (by omega) (by omega), ckI (by omega) (by omega), nI_cl (by omega), (c1.2.2 i hi).1, (c1.2.2 i hi).2, (c2.2 i hi).1, (c2.2 i hi).2]
    by_cases z0 : x2 = 0
    · rw [if_pos z0, Option.bind_some]; exact ⟨_, rfl, rfl⟩
    · by_cases z1 : x2 = 1
      · rw [if_neg z0, if_pos z1, Option.bind_some]; exact ⟨_, rfl, rfl⟩
      · rw [if_neg z0, if_neg z1, Option.bind_some]; exact ⟨_, rfl, rfl⟩
  · rw [e, Option.bind_some, if_pos rfl]
    by_cases h0 : x1 < 0
    · rw [if_pos h0, Option.bind_some]; exact ⟨_, rfl, rfl⟩
    · rw [if_neg h0, if_neg (fun q => i32_nlt.mpr (hx.resolve_left h0) q), Option.bind_some]; exact ⟨_, rfl, rfl⟩
