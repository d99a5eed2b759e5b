/-! spans, span, share, same, differ -/
theorem lN_m1 {a : Nat} (h : 0 < a) : lN a - 1 = lN (a - 1) := lN_sub (b := 1) h
theorem rend_gt {F : Nat → Nat} {R : List P2} {t : Nat} (hp : pruns F R t) {i : Nat} (hi : i < R.length) : (ck2 R i).1 < rend R t i ∧ rend R t i ≤ t := by
  unfold rend
  by_cases z : i + 1 < R.length
  · rw [if_pos z]; have := hp.2.2.2.1 (i + 1) z; exact ⟨(hp.2.2.1 i z).1, by omega⟩
  · rw [if_neg z]; exact ⟨hp.2.2.2.1 i hi, Nat.le_refl _⟩
theorem m_slast {F : Nat → Nat} {M : gMem} {s : Nat} {R : List P2} (h : SPN M s R 4294967296) (hp : pruns F R 4294967296) {i : Nat} (hi : i < R.length) : mX3_last M s (nI i) = some (lN (rend R 4294967296 i - 1)) := by
  have h1 := h.1
  rw [mX3_last, h.2.2.1, nI_1]
  have g := rend_gt hp hi
  unfold rend at g ⊢
  by_cases z : i + 1 < R.length
  · rw [if_pos z] at g
    rw [if_neg (nI_ge z (by omega)), ckI (by omega) (by omega), nI_cl (by omega), (h.2.2.2.2 _ z).1, if_pos z, lN_m1 (by omega)]
  · rw [if_pos (nI_le (by omega) (by omega)), if_neg z]; rfl
theorem r_end {M : gMem} {R : List P2} (h : SPR M R) {i : Nat} (hi : i < R.length) : mX8_end M (nI i) = some (lN (rend R 4294967296 i)) := by
  have h1 := h.1
  rw [mX8_end, h.2.1, nI_1]
  unfold rend
  by_cases z : i + 1 < R.length
  · rw [if_neg (nI_ge z (by omega)), ckI (by omega) (by omega), nI_cl (by omega), (h.2.2 _ z).1, if_pos z]
  · rw [if_pos (nI_le (by omega) (by omega)), if_neg z]; rfl
theorem both_spans' {MC MR : gMem} (h : Inv MC MR) {b : Nat} (h6 : b < 6) : ∃ MC' MR' R F, mX3_measure MC 41 (2 + 4 * b) = some MC' ∧ mX8_makeSpans MR 3 (nI b) (nI b) = some MR' ∧ SPN MC' 41 R 4294967296 ∧ SPR MR' R ∧ Inv MC' MR' ∧ pruns F R 4294967296 ∧ (∀ i, i < R.length → (ck2 R i).2 ≤ 16) := by
  obtain ⟨bks, hb, h26, h30, hc⟩ := id h
  have hlen := (hb.2.1 b h6).1
  obtain ⟨MC', R, e1, s1, p1, o1⟩ := m_measure (s := 41) (by omega) (hb.1 b h6) (hb.2.2 b h6) hlen
  obtain ⟨MR', R2, e2, s2, p2, o2⟩ := r_makeSpans (how := 3) h6 h6 (hb.2.1 b h6) (hb.2.1 b h6) (hb.2.2 b h6) (hb.2.2 b h6) (by omega)
  rw [mixF3] at p2
  have e := pruns_uniq p1 p2
  subst e
  exact ⟨MC', MR', R, _, e1, e2, s1, s2, Inv.keep h (by omega) (by omega) o1 o2, p1, fun i hi => runs_le (hb.2.2 b h6) p1 hi⟩
theorem op_spans {MC MR : gMem} (h : Inv MC MR) (x1 : Int32) : ∃ r MC' MR', mX7_spans MC x1 = some (r, MC') ∧ mX8_spans MR x1 = some (r, MR') ∧ Inv MC' MR' := by
  rw [mX7_spans, mX8_spans]
  rcases book_cases x1 with ⟨b, h6, rfl, e1, e2⟩ | ⟨e1, e2⟩
  rotate_left
  · rw [e1, e2, Option.bind_some, Option.bind_some, if_pos rfl, if_pos rfl]; exact ⟨_, _, _, rfl, rfl, h⟩
  rw [e1, e2, Option.bind_some, Option.bind_some, if_neg one_ne, if_neg one_ne, ckI (n := 6) h6 (by omega), nI_cl (by omega)]
  obtain ⟨MC', MR', R, F, f1, f2, s1, s2, iv, p, g⟩ := both_spans' h h6
  rw [f1, f2, Option.bind_some, Option.bind_some, s1.2.2.1, s2.2.1]
  exact ⟨_, _, _, rfl, rfl, iv⟩
theorem lies_len {x : Int32} {n : Nat} (hn : n < 2147483648) : (∃ i, i < n ∧ x = nI i ∧ mX8_lies x 0 (nI n - 1) = some 1) ∨ ((x < 0 ∨ nI n ≤ x) ∧ mX8_lies x 0 (nI n - 1) = some 0) := by
  by_cases h0 : x < 0
  · exact Or.inr ⟨Or.inl h0, by rw [mX8_lies, if_pos h0]⟩
  · obtain ⟨i, hi, rfl⟩ := nI_of h0
    by_cases hl : i < n
    · refine Or.inl ⟨i, hl, rfl, ?_⟩
      rw [show nI n - (1 : Int32) = nI (n - 1) from pk_sub (b := 1) (by omega)]
      exact r_lies_in (by omega) (by omega)
    · refine Or.inr ⟨Or.inr (nI_le (by omega) hi), ?_⟩
      rw [mX8_lies, if_neg h0, if_pos]
      rw [Int32.lt_iff_toInt_lt, nI_toInt hi]
      by_cases hz : n = 0
      · rw [hz]
        have e : (nI 0 - 1 : Int32).toInt = -1 := rfl
        rw [e]; omega
      · rw [show nI n - (1 : Int32) = nI (n - 1) from pk_sub (b := 1) (by omega), nI_toInt (by omega)]
        omega
theorem op_span {MC MR : gMem} (h : Inv MC MR) (x1 x2 x3 : Int32) : ∃ r MC' MR', mX7_span MC x1 x2 x3 = some (r, MC') ∧ mX8_span MR x1 x2 x3 = some (r, MR') ∧ Inv MC' MR' := by
  rw [mX7_span, mX8_span]
  rcases book_cases x1 with ⟨b, h6, rfl, e1, e2⟩ | ⟨e1, e2⟩
  rotate_left
  · rw [e1, e2, Option.bind_some, Option.bind_some, if_pos rfl, if_pos rfl]; exact ⟨_, _, _, rfl, rfl, h⟩
  rw [e1, e2, Option.bind_some, Option.bind_some, if_neg one_ne, if_neg one_ne, ckI (n := 6) h6 (by omega), nI_cl (by omega)]
  obtain ⟨MC', MR', R, F, f1, f2, s1, s2, iv, p, g⟩ := both_spans' h h6
  have l1 := s1.1
  rw [f1, f2, Option.bind_some, Option.bind_some, mX3_tell, s1.2.2.1, s2.2.1]
  rcases lies_len (x := x2) (n := R.length) (by omega) with ⟨i, hi, rfl, e⟩ | ⟨hx, e⟩
  · have g1 := rend_gt p hi
    rw [e, Option.bind_some, if_neg one_ne, if_neg (nI_pos (by omega)), if_pos (nI_lt hi (by omega)), ckI (by omega) (by omega), ckI (by omega) (by omega), ckI (by omega) (by omega), ckI (by omega) (by omega), nI_cl (by omega), (s1.2.2.2.2 i hi).1, (s1.2.2.2.2 i hi).2, (s2.2.2 i hi).1, (s2.2.2 i hi).2, m_slast s1 p hi, r_end s2 hi, Option.bind_some, Option.bind_some, lN_m1 (by omega)]
    by_cases z0 : x3 = 0
    · rw [if_pos z0, if_pos z0, Option.bind_some]; exact ⟨_, _, _, rfl, rfl, iv⟩
    · by_cases z1 : x3 = 1
      · rw [if_neg z0, if_pos z1, if_neg z0, if_pos z1, Option.bind_some]; exact ⟨_, _, _, rfl, rfl, iv⟩
      · by_cases z2 : x3 = 2
        · rw [if_neg z0, if_neg z1, if_pos z2, if_neg z0, if_neg z1, if_pos z2, Option.bind_some]; exact ⟨_, _, _, rfl, rfl, iv⟩
        · rw [if_neg z0, if_neg z1, if_neg z2, if_neg z0, if_neg z1, if_neg z2, Option.bind_some]; exact ⟨_, _, _, rfl, rfl, iv⟩
  · rw [e, Option.bind_some, if_pos rfl]
    rcases hx with hx | hx
    · rw [if_pos hx, Option.bind_some]; exact ⟨_, _, _, rfl, rfl, iv⟩
    · by_cases h0 : x2 < 0
      · rw [if_pos h0, Option.bind_some]; exact ⟨_, _, _, rfl, rfl, iv⟩
      · rw [if_neg h0, if_neg (fun q => i32_nlt.mpr hx q), Option.bind_some]; exact ⟨_, _, _, rfl, rfl, iv⟩
def sumTo (R : List P2) (g : Nat) : Nat → Nat
  | 0 => 0
  | i + 1 => sumTo R g i + (if (ck2 R i).2 = g then rend R 4294967296 i - (ck2 R i).1 else 0)
theorem m_share_loop {F : Nat → Nat} {M : gMem} {s : Nat} {R : List P2} (h : SPN M s R 4294967296) (hp : pruns F R 4294967296) (hg : ∀ i, i < R.length → (ck2 R i).2 ≤ 16) {g : Nat} (g16 : g ≤ 16) : ∀ f i, i ≤ R.length → R.length - i < f → mX3_addressesTo_5 f M s (nI g) (lN (sumTo R g i)) (nI i) = some (lN (sumTo R g R.length)) := by
  have h1 := h.1
  intro f
  induction f with
  | zero => intro i _ h; omega
  | succ f ih =>
    intro i hi hf
    rw [mX3_addressesTo_5, h.2.2.1]
    by_cases z : i < R.length
    · have nx := ih (i + 1) (by omega) (by omega)
      have gi := hg i z
      have r := rend_gt hp z
      rw [sumTo] at nx
      rw [if_neg (nI_ge z (by omega)), ckI (by omega) (by omega), nI_cl (by omega), (h.2.2.2.2 i z).2]
      by_cases c : (ck2 R i).2 = g
      · rw [if_pos c] at nx
        rw [if_pos (by rw [c]), m_slast h hp z, Option.bind_some, ckI (by omega) (by omega), (h.2.2.2.2 i z).1, nmd, nmd, nI_1, lN_sub (by omega), lN_1, lN_add, show rend R 4294967296 i - 1 - (ck2 R i).1 + 1 = rend R 4294967296 i - (ck2 R i).1 by omega]
        exact nx
      · rw [if_neg c] at nx
        rw [if_neg (fun q => c ((nI_inj (by omega) (by omega)).mp q)), nmd, nI_1]
        exact nx
    · rw [if_pos (nI_le (by omega) (by omega)), show i = R.length by omega]
theorem r_share_loop {F : Nat → Nat} {M : gMem} {R : List P2} (h : SPR M R) (hp : pruns F R 4294967296) (hg : ∀ i, i < R.length → (ck2 R i).2 ≤ 16) {g : Nat} (g16 : g ≤ 16) : ∀ f i, i ≤ R.length → R.length - i < f → mX8_share_33 f M (nI g) (lN (sumTo R g i)) (nI i) = some (lN (sumTo R g R.length), M) := by
  have h1 := h.1
  intro f
  induction f with
  | zero => intro i _ h; omega
  | succ f ih =>
    intro i hi hf
    rw [mX8_share_33, h.2.1]
    by_cases z : i < R.length
    · have nx := ih (i + 1) (by omega) (by omega)
      have gi := hg i z
      have r := rend_gt hp z
      rw [sumTo] at nx
      rw [if_neg (nI_ge z (by omega)), ckI (by omega) (by omega), nI_cl (by omega), (h.2.2 i z).2]
      by_cases c : (ck2 R i).2 = g
      · rw [if_pos c] at nx
        rw [if_pos (by rw [c]), r_end h z, Option.bind_some, ckI (by omega) (by omega), (h.2.2 i z).1, nmd, nmd, nI_1, lN_sub (by omega), lN_add]
        exact nx
      · rw [if_neg c] at nx
        rw [if_neg (fun q => c ((nI_inj (by omega) (by omega)).mp q)), nmd, nmd, nI_1, show (0 : Int64) = lN 0 from rfl, lN_add]
        exact nx
    · rw [if_pos (nI_le (by omega) (by omega)), show i = R.length by omega]
theorem op_share {MC MR : gMem} (h : Inv MC MR) (x1 x2 : Int32) : ∃ r MC' MR', mX7_share MC x1 x2 = some (r, MC') ∧ mX8_share MR x1 x2 = some (r, MR') ∧ Inv MC' MR' := by
  have hfu := FU_big
  rw [mX7_share, mX8_share]
  rcases book_cases x1 with ⟨b, h6, rfl, e1, e2⟩ | ⟨e1, e2⟩
  rotate_left
  · rw [e1, e2, Option.bind_some, Option.bind_some, if_pos rfl, if_pos rfl]; exact ⟨_, _, _, rfl, rfl, h⟩
  rw [e1, e2, Option.bind_some, Option.bind_some, if_neg one_ne, if_neg one_ne]
  rcases goal_cases x2 with ⟨g, hg, rfl, e1, e2⟩ | ⟨e1, e2⟩
  rotate_left
  · rw [e1, e2, Option.bind_some, Option.bind_some, if_pos rfl, if_pos rfl]; exact ⟨_, _, _, rfl, rfl, h⟩
  rw [e1, e2, Option.bind_some, Option.bind_some, if_neg one_ne, if_neg one_ne, ckI (n := 6) h6 (by omega), nI_cl (by omega)]
  obtain ⟨MC', MR', R, F, f1, f2, s1, s2, iv, p, gs⟩ := both_spans' h h6
  have l1 := s1.1
  have a := m_share_loop s1 p gs hg FU 0 (by omega) (by omega)
  have b := r_share_loop s2 p gs hg FU 0 (by omega) (by omega)
  rw [f1, f2, Option.bind_some, Option.bind_some, mX3_addressesTo]
  have a' : mX3_addressesTo_5 FU MC' 41 (nI g) 0 0 = _ := a
  have b' : mX8_share_33 FU MR' (nI g) 0 0 = _ := b
  rw [a', b', Option.bind_some]
  exact ⟨_, _, _, rfl, rfl, iv⟩
/-! how many, and which first -/
def dcnt (P : Nat → Bool) : Nat → Nat
  | 0 => 0
  | t + 1 => dcnt P t + (if P t = true then 1 else 0)
def dfst (P : Nat → Bool) : Nat → Option Nat
  | 0 => none
  | t + 1 => match dfst P t with
    | some x => some x
    | none => if P t = true then some t else none
theorem dcnt_le (P : Nat → Bool) (t : Nat) : dcnt P t ≤ t := by
  induction t with
  | zero => exact Nat.le_refl _
  | succ t ih => rw [dcnt]; split <;> omega
theorem dfst_lt {P : Nat → Bool} {t x : Nat} (h : dfst P t = some x) : x < t := by
  induction t with
  | zero => cases h
  | succ t ih =>
    rw [dfst] at h
    cases q : dfst P t with
    | some y => rw [q] at h; cases h; have := ih q; omega
    | none =>
      rw [q] at h
      by_cases c : P t = true
      · simp [c] at h; omega
      · simp [c] at h
theorem dfst_none {P : Nat → Bool} {t : Nat} : dfst P t = none ↔ dcnt P t = 0 := by
  induction t with
  | zero => exact ⟨fun _ => rfl, fun _ => rfl⟩
  | succ t ih =>
    rw [dfst, dcnt]
    cases q : dfst P t with
    | some y =>
      have : dcnt P t ≠ 0 := fun z => by rw [ih.mpr z] at q; cases q
      constructor
      · intro z; cases z
      · intro z; omega
    | none =>
      have := ih.mp q
      by_cases c : P t = true
      · simp [c]
      · simp [c, this]
theorem dcnt_run {P : Nat → Bool} {v : Bool} {t : Nat} : ∀ e, t ≤ e → (∀ x, t ≤ x → x < e → P x = v) → dcnt P e = dcnt P t + (if v = true then e - t else 0) ∧ dfst P e = match dfst P t with
    | some x => some x
    | none => if v = true ∧ t < e then some t else none := by
  intro e
  induction e with
  | zero =>
    intro h _
    have : t = 0 := by omega
    subst this
    refine ⟨by split <;> rfl, ?_⟩
    show none = if v = true ∧ 0 < 0 then some 0 else none
    rw [if_neg (by omega)]
  | succ e ih =>
    intro h hP
    by_cases z : t = e + 1
    · subst z
      refine ⟨by split <;> omega, ?_⟩
      cases q : dfst P (e + 1) with
      | some y => rfl
      | none => show none = if v = true ∧ e + 1 < e + 1 then some (e + 1) else none; rw [if_neg (by omega)]
    · obtain ⟨a, b⟩ := ih (by omega) (fun x x1 x2 => hP x x1 (by omega))
      have pe := hP e (by omega) (by omega)
      rw [dcnt, dfst, a, b, pe]
      cases v with
      | false =>
        refine ⟨rfl, ?_⟩
        cases q : dfst P t with
        | some y => rfl
        | none => simp
      | true =>
        refine ⟨by simp; omega, ?_⟩
        cases q : dfst P t with
        | some y => rfl
        | none =>
          by_cases te : t < e
          · simp [te]; omega
          · have : t = e := by omega
            subst this
            simp
def oL : Option Nat → Int64
  | none => -1
  | some x => lN x
theorem lN_ne_m1 {x : Nat} (h : x < 4294967296) : ¬ lN x = (-1 : Int64) := fun e => by
  have := congrArg Int64.toInt e
  rw [pk_lT (by omega)] at this
  have e1 : (-1 : Int64).toInt = -1 := rfl
  omega
