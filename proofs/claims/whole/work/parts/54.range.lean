/-! LINES from one place to another -/
def leadR (B : List L3) (f t c x : Nat) : Nat := match lastP (fun i => decide (f ≤ i) && mt (bk B i) x) t with
  | some i => (bk B i).2.2
  | none => c
theorem leadR_some {B : List L3} {f t c x i : Nat} (h1 : f ≤ i) (h2 : i < t) (h3 : mt (bk B i) x = true) (h4 : ∀ j, i < j → j < t → mt (bk B j) x = false) : leadR B f t c x = (bk B i).2.2 := by
  have : lastP (fun i => decide (f ≤ i) && mt (bk B i) x) t = some i := lastP_some.mpr ⟨h2, by rw [h3, decide_eq_true h1]; rfl, fun j a b => by rw [h4 j a b, Bool.and_false]⟩
  unfold leadR
  rw [this]
theorem leadR_none {B : List L3} {f t c x : Nat} (h : ∀ j, f ≤ j → j < t → mt (bk B j) x = false) : leadR B f t c x = c := by
  have : lastP (fun i => decide (f ≤ i) && mt (bk B i) x) t = none := lastP_none.mpr (fun k hk => by
    by_cases c : f ≤ k
    · rw [h k c hk, Bool.and_false]
    · rw [decide_eq_false c]; rfl)
  unfold leadR
  rw [this]
theorem leadR_cases (B : List L3) (f t c x : Nat) : (∃ i, f ≤ i ∧ i < t ∧ mt (bk B i) x = true ∧ (∀ j, i < j → j < t → mt (bk B j) x = false) ∧ leadR B f t c x = (bk B i).2.2) ∨ ((∀ j, f ≤ j → j < t → mt (bk B j) x = false) ∧ leadR B f t c x = c) := by
  cases q : lastP (fun i => decide (f ≤ i) && mt (bk B i) x) t with
  | none =>
    have h : ∀ j, f ≤ j → j < t → mt (bk B j) x = false := fun j a b => by
      have := lastP_none.mp q j b
      rw [decide_eq_true a, Bool.true_and] at this
      exact this
    exact Or.inr ⟨h, leadR_none h⟩
  | some i =>
    obtain ⟨a, b, c'⟩ := lastP_some.mp q
    rw [Bool.and_eq_true] at b
    have fi := of_decide_eq_true b.1
    have h4 : ∀ j, i < j → j < t → mt (bk B j) x = false := fun j a1 b1 => by
      have := c' j a1 b1
      rw [decide_eq_true (show f ≤ j by omega), Bool.true_and] at this
      exact this
    exact Or.inl ⟨i, fi, a, b.2, h4, leadR_some fi a b.2 h4⟩
theorem leadR_le {B : List L3} (hw : wfB B) {f t c : Nat} (ht : t ≤ B.length) (hc : c ≤ 16) (x : Nat) : leadR B f t c x ≤ 16 := by
  rcases leadR_cases B f t c x with ⟨i, _, a, _, _, e⟩ | ⟨_, e⟩
  · rw [e]; exact (hw.1 i (by omega)).2.2.1
  · rw [e]; exact hc
theorem leads_R (B : List L3) (x : Nat) : leads B x = leadR B 0 B.length 16 x := by
  unfold leads holder
  rcases leadR_cases B 0 B.length 16 x with ⟨i, _, a, b, c, e⟩ | ⟨a, e⟩
  · rw [e, lastP_some.mpr ⟨a, b, c⟩]; rfl
  · rw [e, lastP_none.mpr (fun k hk => a k (by omega) hk)]; rfl
/-- they lie in a block -/
def InB (B : List L3) (f t p k : Nat) : Prop := t ≤ B.length ∧ ∀ i, f ≤ i → i < t → p ≤ (bk B i).1 ∧ en (bk B i) ≤ p + 2 ^ k
def isO (B : List L3) (i p k : Nat) : Prop := (bk B i).1 = p ∧ 32 - (bk B i).2.1 = k
theorem pw_leI {a b : Nat} (h : 2 ^ a ≤ 2 ^ b) : a ≤ b := by
  refine Classical.byContradiction fun q => ?_
  have := pw_lt (show b < a by omega)
  omega
theorem InB_k {B : List L3} {f t p k i : Nat} (h : InB B f t p k) (h1 : f ≤ i) (h2 : i < t) : 32 - (bk B i).2.1 ≤ k := by
  have := h.2 i h1 h2
  unfold en at this
  exact pw_leI (by omega)
theorem own_first {B : List L3} (hw : wfB B) {f t p k i : Nat} (h : InB B f t p k) (h1 : f ≤ i) (h2 : i < t) (ho : isO B i p k) : i = f := by
  refine Classical.byContradiction fun q => ?_
  have a := hw.2 f i (by omega) (by have := h.1; omega)
  have b := (h.2 f (by omega) (by omega)).1
  have c := InB_k h (Nat.le_refl f) (show f < t by omega)
  have w1 := (hw.1 f (by have := h.1; omega)).2.1
  have w2 := (hw.1 i (by have := h.1; omega)).2.1
  unfold isO at ho
  unfold ltL at a
  omega
/-- the places behind the block's own LINE and at the first of the upper half -/
def sp (B : List L3) (f t p k b h : Nat) : Prop := ((b = f ∧ ¬ (f < t ∧ isO B f p (k + 1))) ∨ (b = f + 1 ∧ f < t ∧ isO B f p (k + 1))) ∧ b ≤ h ∧ h ≤ t ∧ (∀ i, b ≤ i → i < h → (bk B i).1 < p + 2 ^ k) ∧ (h < t → p + 2 ^ k ≤ (bk B h).1)
theorem sp_ex {B : List L3} {f t p k : Nat} (hf : f ≤ t) : ∃ b h, sp B f t p k b h := by
  have hb : ∃ b, ((b = f ∧ ¬ (f < t ∧ isO B f p (k + 1))) ∨ (b = f + 1 ∧ f < t ∧ isO B f p (k + 1))) := by
    by_cases c : f < t ∧ isO B f p (k + 1)
    · exact ⟨f + 1, Or.inr ⟨rfl, c⟩⟩
    · exact ⟨f, Or.inl ⟨rfl, c⟩⟩
  obtain ⟨b, eb⟩ := hb
  have bt : b ≤ t := by rcases eb with z | z <;> omega
  obtain ⟨h, ⟨h1, h2⟩, h3⟩ := pk_least (fun i => b ≤ i ∧ (t ≤ i ∨ p + 2 ^ k ≤ (bk B i).1)) ⟨t, bt, Or.inl (Nat.le_refl _)⟩
  have ht : h ≤ t := by
    refine Classical.byContradiction fun q => ?_
    exact h3 t (by omega) ⟨bt, Or.inl (Nat.le_refl _)⟩
  refine ⟨b, h, eb, h1, ht, fun i i1 i2 => ?_, fun z => ?_⟩
  · refine Classical.byContradiction fun q => h3 i i2 ⟨i1, Or.inr (by omega)⟩
  · rcases h2 with y | y
    · omega
    · exact y
theorem en_al {q : L3} (h : wfL q) {m : Nat} (hk : 32 - q.2.1 ≤ m) {y : Nat} (hy : y % 2 ^ m = 0) (hlt : q.1 < y) : en q ≤ y :=
  al_le h.2.2.2 (mod_pw hk hy) hlt
theorem split {B : List L3} (hw : wfB B) {f t p k b h : Nat} (hI : InB B f t p (k + 1)) (hp : p % 2 ^ (k + 1) = 0) (hs : sp B f t p k b h) : InB B b h p k ∧ InB B h t (p + 2 ^ k) k := by
  obtain ⟨s1, s2, s3, s4, s5⟩ := hs
  have e := pw_succ k
  obtain ⟨a1, a2⟩ := al_half hp
  have nk : ∀ i, b ≤ i → i < t → 32 - (bk B i).2.1 ≤ k := by
    intro i i1 i2
    have z := InB_k hI (show f ≤ i by rcases s1 with y | y <;> omega) i2
    refine Classical.byContradiction fun q => ?_
    have z2 : 32 - (bk B i).2.1 = k + 1 := by omega
    have hh := hI.2 i (by rcases s1 with y | y <;> omega) i2
    have o : isO B i p (k + 1) := by
      refine ⟨?_, z2⟩
      have x := hh.2
      unfold en at x
      rw [z2] at x
      omega
    have := own_first hw hI (by rcases s1 with y | y <;> omega) i2 o
    subst this
    rcases s1 with y | y
    · exact y.2 ⟨i2, o⟩
    · omega
  refine ⟨⟨by have := hI.1; omega, fun i i1 i2 => ?_⟩, ⟨hI.1, fun i i1 i2 => ?_⟩⟩
  · have hh := hI.2 i (by rcases s1 with y | y <;> omega) (by omega)
    exact ⟨hh.1, en_al (hw.1 i (by have := hI.1; omega)) (nk i i1 (by omega)) a2 (s4 i i1 i2)⟩
  · have hh := hI.2 i (by rcases s1 with y | y <;> omega) i2
    refine ⟨Nat.le_trans (s5 (by omega)) (wf_mono hw i1 (by have := hI.1; omega)), by omega⟩
theorem mt_no1 {q : L3} (h : wfL q) {x : Nat} (hx : x < q.1 ∨ en q ≤ x) : mt q x = false := by
  cases z : mt q x with
  | false => rfl
  | true => have := (mt_range h x).mp z; omega
/-- what comes below the block's own LINE -/
def cB (B : List L3) (f b c : Nat) : Nat := if b = f then c else (bk B f).2.2
theorem lead_low {B : List L3} (hw : wfB B) {f t p k b h c : Nat} (hI : InB B f t p (k + 1)) (hp : p % 2 ^ (k + 1) = 0) (hs : sp B f t p k b h) {x : Nat} (x1 : p ≤ x) (x2 : x < p + 2 ^ k) : leadR B f t c x = leadR B b h (cB B f b c) x := by
  obtain ⟨i1, i2⟩ := split hw hI hp hs
  obtain ⟨s1, s2, s3, s4, s5⟩ := hs
  have e := pw_succ k
  have hiN : ∀ j, h ≤ j → j < t → mt (bk B j) x = false := fun j j1 j2 => mt_no1 (hw.1 j (by have := hI.1; omega)) (Or.inl (by have := (i2.2 j j1 j2).1; omega))
  rcases leadR_cases B b h (cB B f b c) x with ⟨i, q1, q2, q3, q4, q5⟩ | ⟨q1, q2⟩
  · rw [q5]
    refine leadR_some (by rcases s1 with y | y <;> omega) (by omega) q3 (fun j j1 j2 => ?_)
    by_cases z : j < h
    · exact q4 j j1 z
    · exact hiN j (by omega) j2
  · rw [q2]
    have no : ∀ j, b ≤ j → j < t → mt (bk B j) x = false := fun j j1 j2 => by
      by_cases z : j < h
      · exact q1 j j1 z
      · exact hiN j (by omega) j2
    unfold cB
    rcases s1 with ⟨y, _⟩ | ⟨y, y2, y3⟩
    · rw [if_pos y]; subst y; exact leadR_none no
    · rw [if_neg (by omega)]
      refine leadR_some (Nat.le_refl _) y2 ?_ (fun j j1 j2 => no j (by omega) j2)
      refine (mt_range (hw.1 f (by have := hI.1; omega)) x).mpr ?_
      unfold isO at y3
      unfold en
      rw [y3.1, y3.2]; omega
theorem lead_high {B : List L3} (hw : wfB B) {f t p k b h c : Nat} (hI : InB B f t p (k + 1)) (hp : p % 2 ^ (k + 1) = 0) (hs : sp B f t p k b h) {x : Nat} (x1 : p + 2 ^ k ≤ x) (x2 : x < p + 2 ^ k + 2 ^ k) : leadR B f t c x = leadR B h t (cB B f b c) x := by
  obtain ⟨i1, i2⟩ := split hw hI hp hs
  obtain ⟨s1, s2, s3, s4, s5⟩ := hs
  have e := pw_succ k
  have loN : ∀ j, b ≤ j → j < h → mt (bk B j) x = false := fun j j1 j2 => mt_no1 (hw.1 j (by have := hI.1; omega)) (Or.inr (by have := (i1.2 j j1 j2).2; omega))
  rcases leadR_cases B h t (cB B f b c) x with ⟨i, q1, q2, q3, q4, q5⟩ | ⟨q1, q2⟩
  · rw [q5]
    exact leadR_some (by rcases s1 with y | y <;> omega) q2 q3 q4
  · rw [q2]
    have no : ∀ j, b ≤ j → j < t → mt (bk B j) x = false := fun j j1 j2 => by
      by_cases z : j < h
      · exact loN j j1 z
      · exact q1 j (by omega) j2
    unfold cB
    rcases s1 with ⟨y, _⟩ | ⟨y, y2, y3⟩
    · rw [if_pos y]; subst y; exact leadR_none no
    · rw [if_neg (by omega)]
      refine leadR_some (Nat.le_refl _) y2 ?_ (fun j j1 j2 => no j (by omega) j2)
      refine (mt_range (hw.1 f (by have := hI.1; omega)) x).mpr ?_
      unfold isO at y3
      unfold en
      rw [y3.1, y3.2]; omega
/-- a block of one ADDRESS has its own LINE at most -/
theorem one_line {B : List L3} (hw : wfB B) {f t p : Nat} (hI : InB B f t p 0) {i : Nat} (h1 : f ≤ i) (h2 : i < t) : i = f ∧ isO B f p 0 := by
  have o : ∀ i, f ≤ i → i < t → isO B i p 0 := by
    intro i h1 h2
    have hh := hI.2 i h1 h2
    have := InB_k hI h1 h2
    have pos := pw_pos (32 - (bk B i).2.1)
    have x := hh.2
    unfold en at x
    rw [show 2 ^ 0 = 1 from rfl] at x
    exact ⟨by omega, by omega⟩
  have e := own_first hw hI h1 h2 (o i h1 h2)
  exact ⟨e, o f (Nat.le_refl _) (by omega)⟩
theorem opt {B : List L3} (hw : wfB B) : ∀ k p f t c, f ≤ t → c ≤ 16 → InB B f t p k → p % 2 ^ k = 0 → (mleast (leadR B f t c) k p c).length ≤ t - f := by
  intro k
  induction k with
  | zero =>
    intro p f t c hf hc hI hp
    by_cases z : f < t
    · rw [mleast]
      unfold ownL
      split
      · exact Nat.zero_le _
      · show 1 ≤ t - f; omega
    · have e : t = f := by omega
      rw [mleast_const hc 0 p c (fun x _ _ => leadR_none (fun j j1 j2 => by omega)), ownL_in (has_pow.mpr rfl)]
      exact Nat.zero_le _
  | succ k ih =>
    intro p f t c hf hc hI hp
    obtain ⟨b, h, hs⟩ := sp_ex (B := B) (p := p) (k := k) hf
    obtain ⟨i1, i2⟩ := split hw hI hp hs
    obtain ⟨a1, a2⟩ := al_half hp
    have s := hs
    obtain ⟨s1, s2, s3, s4, s5⟩ := s
    have hF : ∀ x, leadR B f t c x ≤ 16 := leadR_le hw hI.1 hc
    have c16 : cB B f b c ≤ 16 := by
      unfold cB
      split
      · exact hc
      · rcases s1 with y | y
        · omega
        · exact (hw.1 f (by have := hI.1; omega)).2.2.1
    have l1 := ih p b h (cB B f b c) s2 c16 i1 a1
    have l2 := ih (p + 2 ^ k) h t (cB B f b c) s3 c16 i2 a2
    have e1 := mleast_congr (F := leadR B f t c) (G := leadR B b h (cB B f b c)) k p (cB B f b c) (fun x x1 x2 => lead_low hw hI hp hs x1 x2)
    have e2 := mleast_congr (F := leadR B f t c) (G := leadR B h t (cB B f b c)) k (p + 2 ^ k) (cB B f b c) (fun x x1 x2 => lead_high hw hI hp hs x1 x2)
    have half := cost_half hF k p (cB B f b c)
    rw [e1, e2] at half
    rcases s1 with ⟨y, _⟩ | ⟨y, y2, y3⟩
    · have ec : cB B f b c = c := if_pos y
      rw [ec] at half l1 l2
      omega
    · have := cost_change hF (k + 1) p c (cB B f b c)
      omega
theorem InB_all {B : List L3} (hw : wfB B) : InB B 0 B.length 0 32 := ⟨Nat.le_refl _, fun i _ hi => ⟨Nat.zero_le _, by have := en_le (hw.1 i hi); omega⟩⟩
theorem leads_fun (B : List L3) : leads B = leadR B 0 B.length 16 := funext (leads_R B)
theorem least_le {B : List L3} (hw : wfB B) : (mleast (leads B) 32 0 16).length ≤ B.length := by
  rw [leads_fun]
  have := opt hw 32 0 0 B.length 16 (Nat.zero_le _) (by omega) (InB_all hw) (by omega)
  omega
