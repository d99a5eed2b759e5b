/-! Lines: rows of LINES, as lists of (ADDRESS, n, GOAL) -/
def bz : Bool → Int32
  | true => 1
  | false => 0
abbrev L3 : Type := Nat × Nat × Nat
def bk (B : List L3) (i : Nat) : L3 := B.getD i (0, 0, 0)
def wfL (q : L3) : Prop := q.1 < 4294967296 ∧ q.2.1 ≤ 32 ∧ q.2.2 ≤ 16 ∧ q.1 % 2 ^ (32 - q.2.1) = 0
def ltL (p q : L3) : Prop := p.1 < q.1 ∨ (p.1 = q.1 ∧ p.2.1 < q.2.1)
def ltK (q : L3) (a n : Nat) : Prop := q.1 < a ∨ (q.1 = a ∧ q.2.1 < n)
def wfB (B : List L3) : Prop := (∀ i, i < B.length → wfL (bk B i)) ∧ ∀ i j, i < j → j < B.length → ltL (bk B i) (bk B j)
def LA (M : gMem) (l : Nat) (B : List L3) : Prop := ∀ i, i < B.length → M.1 (l + 1) i = nI (bk B i).1 ∧ M.1 (l + 2) i = nI (bk B i).2.1 ∧ M.1 (l + 3) i = nI (bk B i).2.2
def LB (M : gMem) (l : Nat) (B : List L3) : Prop := B.length ≤ lnOf l ∧ lnOf l ≤ 1000 ∧ M.1 l 4 = nI B.length ∧ M.1 l 3 = nI (lnOf l) ∧ LA M l B
def Off (l n : Nat) (M M' : gMem) : Prop := ∀ k, (k < l ∨ l + n ≤ k) → M'.1 k = M.1 k ∧ M'.2 k = M.2 k
theorem Off.rf {l n : Nat} {M : gMem} : Off l n M M := fun _ _ => ⟨rfl, rfl⟩
theorem Off.tr {l n : Nat} {M M1 M2 : gMem} (h1 : Off l n M M1) (h2 : Off l n M1 M2) : Off l n M M2 := fun k hk => ⟨(h2 k hk).1.trans (h1 k hk).1, (h2 k hk).2.trans (h1 k hk).2⟩
theorem LB.off {l l2 n : Nat} {M M' : gMem} {B : List L3} (h : LB M l B) (ho : Off l2 n M M') (hd : l + 4 ≤ l2 ∨ l2 + n ≤ l) : LB M' l B := by
  have e : ∀ c, c < 4 → M'.1 (l + c) = M.1 (l + c) := fun c hc => (ho (l + c) (by omega)).1
  obtain ⟨h1, h2, h3, h4, h5⟩ := h
  have e0 : M'.1 l = M.1 l := e 0 (by omega)
  refine ⟨h1, h2, by rw [e0]; exact h3, by rw [e0]; exact h4, fun i hi => ?_⟩
  rw [e 1 (by omega), e 2 (by omega), e 3 (by omega)]
  exact h5 i hi
theorem FU_big : 20000 < FU := by decide
theorem sI1 {M : gMem} {k j : Nat} {v : Int32} (k' j' : Nat) : (sI M k j v).1 k' j' = if k' = k ∧ j' = j then v else M.1 k' j' := by
  unfold sI va_up upd
  by_cases h : k' = k
  · subst h
    by_cases h2 : j' = j <;> simp [h2]
  · simp [h]
theorem sI2 {M : gMem} {k j : Nat} {v : Int32} : (sI M k j v).2 = M.2 := rfl
theorem sJ1 {M : gMem} {k j : Nat} {v : Int64} : (sJ M k j v).1 = M.1 := rfl
theorem sJ2 {M : gMem} {k j : Nat} {v : Int64} (k' j' : Nat) : (sJ M k j v).2 k' j' = if k' = k ∧ j' = j then v else M.2 k' j' := by
  unfold sJ va_up vp_updL
  by_cases h : k' = k
  · subst h
    by_cases h2 : j' = j <;> simp [h2]
  · simp [h]
theorem sI_Off {M : gMem} {k j l n : Nat} {v : Int32} (h : l ≤ k ∧ k < l + n) : Off l n M (sI M k j v) := fun x hx => sI_off x (by omega)
theorem sJ_Off {M : gMem} {k j l n : Nat} {v : Int64} (h : l ≤ k ∧ k < l + n) : Off l n M (sJ M k j v) := fun x hx => sJ_off x (by omega)
theorem m_isAt {M : gMem} {l : Nat} {B : List L3} (h : LB M l B) {j : Nat} (hj : j < 2147483648) (x y : Int32) : mX2_isAt M l (nI j) x y = some (bz (decide (j < B.length ∧ nI (bk B j).1 = x ∧ nI (bk B j).2.1 = y))) := by
  obtain ⟨h1, h2, h3, h4, h5⟩ := h
  rw [mX2_isAt, if_neg (nI_pos hj), h3]
  by_cases hl : j < B.length
  · obtain ⟨e1, e2, e3⟩ := h5 j hl
    rw [if_neg (nI_ge hl (by omega)), ckI (by omega) (by omega), nI_cl hj, e1]
    by_cases ha : nI (bk B j).1 = x
    · rw [if_pos ha, ckI (by omega) (by omega), e2]
      by_cases hb : nI (bk B j).2.1 = y
      · rw [if_pos hb, decide_eq_true ⟨hl, ha, hb⟩]; rfl
      · rw [if_neg hb, decide_eq_false (fun q => hb q.2.2)]; rfl
    · rw [if_neg ha, decide_eq_false (fun q => ha q.2.1)]; rfl
  · rw [if_pos (nI_le (by omega) hj), decide_eq_false (fun q => hl q.1)]; rfl
theorem m_isAhead_any {M : gMem} {l : Nat} {B : List L3} (h : LB M l B) {i : Nat} (hi : i < B.length) (x y : Int32) : ∃ t : Bool, mX2_isAhead M l (nI i) x y = some (bz t) := by
  obtain ⟨h1, h2, h3, h4, h5⟩ := h
  rw [mX2_isAhead, ckI (by omega) (by omega)]
  by_cases ha : M.1 (l + 1) (nI i).toNatClampNeg = x
  · rw [if_pos ha, ckI (by omega) (by omega)]
    by_cases hb : y ≤ M.1 (l + 2) (nI i).toNatClampNeg
    · exact ⟨false, by rw [if_pos hb]; rfl⟩
    · exact ⟨true, by rw [if_neg hb]; rfl⟩
  · rw [if_neg ha, ckI (by omega) (by omega), mX7_wide, Option.bind_some, mX7_wide, Option.bind_some]
    by_cases hb : x.toInt64 &&& 4294967295 ≤ (M.1 (l + 1) (nI i).toNatClampNeg).toInt64 &&& 4294967295
    · exact ⟨false, by rw [if_pos hb]; rfl⟩
    · exact ⟨true, by rw [if_neg hb]; rfl⟩
theorem ltK_dec (q : L3) (a n : Nat) : ltK q a n ∨ ¬ ltK q a n := Classical.em _
noncomputable def dB (p : Prop) : Bool := @decide p (Classical.propDecidable p)
theorem dB_t {p : Prop} (h : p) : dB p = true := by unfold dB; exact @decide_eq_true p (Classical.propDecidable p) h
theorem dB_f {p : Prop} (h : ¬ p) : dB p = false := by unfold dB; exact @decide_eq_false p (Classical.propDecidable p) h
theorem dB_iff {p : Prop} : dB p = true ↔ p := ⟨fun h => by unfold dB at h; exact @of_decide_eq_true p (Classical.propDecidable p) h, dB_t⟩
theorem dB_iff' {p : Prop} : dB p = false ↔ ¬ p := ⟨fun h q => (by rw [dB_t q] at h; cases h), dB_f⟩
theorem m_isAhead {M : gMem} {l : Nat} {B : List L3} (h : LB M l B) {i a n : Nat} (hi : i < B.length) (hw : wfL (bk B i)) (ha : a < 4294967296) (hn : n ≤ 32) : mX2_isAhead M l (nI i) (nI a) (nI n) = some (bz (dB (ltK (bk B i) a n))) := by
  obtain ⟨h1, h2, h3, h4, h5⟩ := h
  obtain ⟨e1, e2, e3⟩ := h5 i hi
  obtain ⟨w1, w2, w3, w4⟩ := hw
  rw [mX2_isAhead, ckI (by omega) (by omega), nI_cl (by omega), e1]
  by_cases hq : (bk B i).1 = a
  · rw [if_pos (by rw [hq]), ckI (by omega) (by omega), e2]
    by_cases hb : n ≤ (bk B i).2.1
    · rw [if_pos (nI_le hb (by omega)), dB_f (by unfold ltK; omega)]; rfl
    · rw [if_neg (nI_ge (by omega) (by omega)), dB_t (by unfold ltK; omega)]; rfl
  · rw [if_neg (fun e => hq ((nI_inj w1 ha).mp e)), ckI (by omega) (by omega), m_wide w1, Option.bind_some, m_wide ha, Option.bind_some]
    by_cases hb : a ≤ (bk B i).1
    · rw [if_pos ((lN_le' (by omega) (by omega)).mpr hb), dB_f (by unfold ltK; omega)]; rfl
    · rw [if_neg (fun e => hb ((lN_le' (by omega) (by omega)).mp e)), dB_t (by unfold ltK; omega)]; rfl
theorem m_placeOf_loop {M : gMem} {l : Nat} {B : List L3} (h : LB M l B) (x y : Int32) (P : Nat → Bool) (hP : ∀ i, i < B.length → mX2_isAhead M l (nI i) x y = some (bz (P i))) : ∀ f i, i ≤ B.length → B.length - i < f → ∃ j, mX2_placeOf_2 f M l x y (nI i) = some (nI j) ∧ i ≤ j ∧ j ≤ B.length ∧ (∀ k, i ≤ k → k < j → P k = true) ∧ (j < B.length → P j = false) := by
  have h1 := h.1; have h2 := h.2.1; have h3 := h.2.2.1
  intro f
  induction f with
  | zero => intro i _ hf; omega
  | succ f ih =>
    intro i hi hf
    rw [mX2_placeOf_2, h3]
    by_cases hl : i < B.length
    · rw [if_neg (nI_ge hl (by omega)), hP i hl, Option.bind_some]
      cases hPi : P i with
      | false => exact ⟨i, by rw [if_pos (show bz false = 0 from rfl)], by omega, by omega, fun k h1 h2 => by omega, fun _ => hPi⟩
      | true =>
        rw [if_neg (by decide), nmd, nI_1]
        obtain ⟨j, e, q1, q2, q3, q4⟩ := ih (i + 1) (by omega) (by omega)
        refine ⟨j, e, by omega, q2, fun k k1 k2 => ?_, q4⟩
        by_cases hk : k = i
        · rw [hk]; exact hPi
        · exact q3 k (by omega) k2
    · exact ⟨B.length, by rw [if_pos (nI_le (by omega) (by omega))], by omega, by omega, fun k k1 k2 => by omega, fun q => by omega⟩
theorem m_placeOf_any {M : gMem} {l : Nat} {B : List L3} (h : LB M l B) (x y : Int32) : ∃ j, mX2_placeOf M l x y = some (nI j) ∧ j ≤ B.length := by
  have hb := FU_big; have h1 := h.1; have h2 := h.2.1
  have hP : ∀ i, i < B.length → mX2_isAhead M l (nI i) x y = some (bz (dB (mX2_isAhead M l (nI i) x y = some 1))) := by
    intro i hi
    obtain ⟨t, ht⟩ := m_isAhead_any h hi x y
    cases t with
    | true => rw [ht, dB_t (show some (bz true) = some 1 from rfl)]
    | false => rw [ht, dB_f (by simp [bz])]
  obtain ⟨j, e, q1, q2, q3, q4⟩ := m_placeOf_loop h x y _ hP FU 0 (by omega) (by omega)
  exact ⟨j, e, q2⟩
theorem ltK_mono {B : List L3} (hw : wfB B) {i k a n : Nat} (hik : i ≤ k) (hk : k < B.length) (h : ¬ ltK (bk B i) a n) : ¬ ltK (bk B k) a n := by
  by_cases e : i = k
  · subst e; exact h
  · have := hw.2 i k (by omega) hk
    unfold ltK ltL at *
    omega
theorem m_placeOf {M : gMem} {l : Nat} {B : List L3} (h : LB M l B) (hw : wfB B) {a n : Nat} (ha : a < 4294967296) (hn : n ≤ 32) : ∃ j, mX2_placeOf M l (nI a) (nI n) = some (nI j) ∧ j ≤ B.length ∧ (∀ k, k < j → ltK (bk B k) a n) ∧ ∀ k, j ≤ k → k < B.length → ¬ ltK (bk B k) a n := by
  have hb := FU_big; have h1 := h.1; have h2 := h.2.1
  obtain ⟨j, e, q1, q2, q3, q4⟩ := m_placeOf_loop h (nI a) (nI n) (fun i => dB (ltK (bk B i) a n)) (fun i hi => m_isAhead h hi (hw.1 i hi) ha hn) FU 0 (by omega) (by omega)
  refine ⟨j, e, q2, fun k hk => dB_iff.mp (q3 k (by omega) hk), fun k k1 k2 => ltK_mono hw k1 k2 (dB_iff'.mp (q4 (by omega)))⟩
/-- the last place below i that P has -/
def lastP (P : Nat → Bool) : Nat → Option Nat
  | 0 => none
  | i + 1 => if P i = true then some i else lastP P i
def oI : Option Nat → Int32
  | none => -1
  | some k => nI k
theorem lastP_none {P : Nat → Bool} {n : Nat} : lastP P n = none ↔ ∀ k, k < n → P k = false := by
  induction n with
  | zero => simp [lastP]
  | succ n ih =>
    rw [lastP]
    by_cases h : P n = true
    · rw [if_pos h]
      refine ⟨fun q => (by cases q), fun q => ?_⟩
      rw [q n (by omega)] at h; cases h
    · rw [if_neg h, ih]
      refine ⟨fun q k hk => ?_, fun q k hk => q k (by omega)⟩
      by_cases e : k = n
      · rw [e]; exact Bool.eq_false_iff.mpr h
      · exact q k (by omega)
theorem lastP_some {P : Nat → Bool} {n k : Nat} : lastP P n = some k ↔ k < n ∧ P k = true ∧ ∀ j, k < j → j < n → P j = false := by
  induction n with
  | zero => simp [lastP]
  | succ n ih =>
    rw [lastP]
    by_cases h : P n = true
    · rw [if_pos h]
      refine ⟨fun q => ?_, fun q => ?_⟩
      · cases q; exact ⟨by omega, h, fun j h1 h2 => by omega⟩
      · by_cases e : k = n
        · rw [e]
        · have := q.2.2 n (by omega) (by omega)
          rw [h] at this; cases this
    · rw [if_neg h, ih]
      refine ⟨fun q => ⟨by omega, q.2.1, fun j h1 h2 => ?_⟩, fun q => ⟨?_, q.2.1, fun j h1 h2 => q.2.2 j h1 (by omega)⟩⟩
      · by_cases e : j = n
        · rw [e]; exact Bool.eq_false_iff.mpr h
        · exact q.2.2 j h1 (by omega)
      · have : k ≠ n := fun e => h (e ▸ q.2.1)
        omega
/-- an ADDRESS begins with a BEGINNING -/
def mt (q : L3) (x : Nat) : Bool := decide (x / 2 ^ (32 - q.2.1) * 2 ^ (32 - q.2.1) = q.1)
def goalOf (B : List L3) : Option Nat → Nat
  | none => 16
  | some k => (bk B k).2.2
def holder (B : List L3) (m x : Nat) : Option Nat := lastP (fun i => mt (bk B i) x) m
/-- where a BOOK LEADS an ADDRESS -/
def leads (B : List L3) (x : Nat) : Nat := goalOf B (holder B B.length x)
theorem i32_m1 (x : Int32) : x + (-1) = x - 1 := (Int32.sub_eq_add_neg x 1).symm
theorem m_lastHolder_loop {M : gMem} {l : Nat} {B : List L3} (h : LB M l B) (hw : ∀ i, i < B.length → wfL (bk B i)) {x : Nat} (hx : x < 4294967296) : ∀ f i, i ≤ B.length → i < f → mX2_lastHolder_11 f M l (nI x) (nI i - 1) = some (oI (holder B i x)) := by
  obtain ⟨h1, h2, h3, h4, h5⟩ := h
  intro f
  induction f with
  | zero => intro i _ hf; omega
  | succ f ih =>
    intro i hi hf
    rw [mX2_lastHolder_11]
    cases i with
    | zero => rw [if_pos (by decide)]; rfl
    | succ i =>
      obtain ⟨e1, e2, e3⟩ := h5 i (by omega)
      obtain ⟨w1, w2, w3, w4⟩ := hw i (by omega)
      rw [nI_pred, if_neg (nI_pos (by omega)), ckI (by omega) (by omega), ckI (by omega) (by omega), nI_cl (by omega), e1, e2, m_begins hx w1 w2, Option.bind_some]
      unfold holder lastP
      by_cases hm : x / 2 ^ (32 - (bk B i).2.1) * 2 ^ (32 - (bk B i).2.1) = (bk B i).1
      · rw [if_pos hm, if_neg (by decide), if_pos (by unfold mt; exact decide_eq_true hm)]; rfl
      · rw [if_neg hm, if_pos rfl, if_neg (by unfold mt; rw [decide_eq_false hm]; decide), nmd, i32_m1]
        exact ih i (by omega) (by omega)
theorem nI_min {a b : Nat} (ha : a < 2147483648) (hb : b < 2147483648) : (if nI a < nI b then nI a else nI b) = nI (min a b) := by
  by_cases h : a < b
  · rw [if_pos (nI_lt h hb), Nat.min_eq_left (by omega)]
  · rw [if_neg (nI_nlt (by omega) ha), Nat.min_eq_right (by omega)]
theorem m_lastHolder {M : gMem} {l : Nat} {B : List L3} (h : LB M l B) (hw : ∀ i, i < B.length → wfL (bk B i)) {x k : Nat} (hx : x < 4294967296) (hk : k < 2147483648) : mX2_lastHolder M l (nI k) (nI x) = some (oI (holder B (min B.length k) x)) := by
  have hb := FU_big; have h1 := h.1; have h2 := h.2.1; have h3 := h.2.2.1
  rw [mX2_lastHolder, h3, nI_min (by omega) hk, nmd]
  exact m_lastHolder_loop h hw hx FU _ (Nat.min_le_left _ _) (by omega)
theorem holder_lt {B : List L3} {m x k : Nat} (h : holder B m x = some k) : k < m := (lastP_some.mp h).1
theorem nI_m1 {k : Nat} (h : k < 2147483648) : ¬ nI k = (-1 : Int32) := fun e => by
  have := congrArg Int32.toInt e
  rw [nI_toInt h] at this
  have e1 : (-1 : Int32).toInt = -1 := rfl
  omega
theorem m_goalAmong {M : gMem} {l : Nat} {B : List L3} (h : LB M l B) (hw : ∀ i, i < B.length → wfL (bk B i)) {x k : Nat} (hx : x < 4294967296) (hk : k < 2147483648) : mX2_goalAmong M l (nI k) (nI x) = some (nI (goalOf B (holder B (min B.length k) x))) := by
  have h1 := h.1; have h2 := h.2.1; have h5 := h.2.2.2.2
  rw [mX2_goalAmong, m_lastHolder h hw hx hk, Option.bind_some]
  cases hq : holder B (min B.length k) x with
  | none => rw [oI, if_pos rfl]; rfl
  | some j =>
    have hj := holder_lt hq
    rw [oI, if_neg (nI_m1 (by omega)), ckI (by omega) (by omega), nI_cl (by omega), (h5 j (by omega)).2.2]
    rfl
theorem m_find {M : gMem} {l : Nat} {B : List L3} (h : LB M l B) (hw : ∀ i, i < B.length → wfL (bk B i)) {x : Nat} (hx : x < 4294967296) : mX2_goalAmong M l (M.1 l 4) (nI x) = some (nI (leads B x)) := by
  have h1 := h.1; have h2 := h.2.1
  rw [h.2.2.1, m_goalAmong h hw hx (by omega), Nat.min_self]; rfl
theorem m_longest {M : gMem} {l : Nat} {B : List L3} (h : LB M l B) (hw : ∀ i, i < B.length → wfL (bk B i)) {x : Nat} (hx : x < 4294967296) : mX2_lastHolder M l (M.1 l 4) (nI x) = some (oI (holder B B.length x)) := by
  have h1 := h.1; have h2 := h.2.1
  rw [h.2.2.1, m_lastHolder h hw hx (by omega), Nat.min_self]
