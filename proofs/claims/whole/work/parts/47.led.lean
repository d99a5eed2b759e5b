/-! led -/
/-- the place of the LINE of n bits, among the first m, that an ADDRESS begins with -/
def look (L : List L3) (m x n : Nat) : Option Nat := lastP (fun i => mt (bk L i) x && decide ((bk L i).2.1 = n)) m
def tab (L : List L3) (m x : Nat) (v : Nat → Int32) (T : Nat → Int32) (n : Nat) : Int32 := match look L m x n with
  | some j => v j
  | none => T n
theorem look_succ {L : List L3} {i x n : Nat} : look L (i + 1) x n = if (mt (bk L i) x && decide ((bk L i).2.1 = n)) = true then some i else look L i x n := rfl
theorem m_note_loop {l x many : Nat} {L : List L3} {st : Bool} {T : Nat → Int32} (hx : x < 4294967296) (hm : many < 2147483648) (hw : ∀ i, i < L.length → wfL (bk L i)) (hl : l + 4 ≤ 66) (v : Nat → Int32) (hv : v = fun j => if st = true then nI (bk L j).2.2 else -1) : ∀ f i (M : gMem), i ≤ min many L.length → min many L.length - i < f → LB M l L → (∀ n, n < 33 → M.1 66 n = tab L i x v T n) → ∃ M', mX6_noteHolders_3 f M l (nI many) (nI x) (bz st) (nI i) = some M' ∧ Off 66 1 M M' ∧ ∀ n, n < 33 → M'.1 66 n = tab L (min many L.length) x v T n := by
  intro f
  induction f with
  | zero => intro i M _ h; omega
  | succ f ih =>
    intro i M hi hf hL hT
    have h1 := hL.1; have h2 := hL.2.1
    rw [mX6_noteHolders_3, hL.2.2.1]
    by_cases z : i < min many L.length
    · have zl : i < L.length := by omega
      have w := hw i zl
      have w2 := w.2.1
      obtain ⟨e1, e2, e3⟩ := hL.2.2.2.2 i zl
      rw [if_neg (nI_ge (by omega) (by omega)), if_neg (nI_ge zl (by omega)), ckI (by omega) (by omega), ckI (by omega) (by omega), nI_cl (n := i) (by omega), e1, e2, m_begins hx w.1 w2, Option.bind_some]
      by_cases c : x / 2 ^ (32 - (bk L i).2.1) * 2 ^ (32 - (bk L i).2.1) = (bk L i).1
      · have cm : mt (bk L i) x = true := mt_iff.mpr c
        rw [if_pos c, if_neg one_ne, ckI (by omega) (by omega)]
        have go : ∀ u : Int32, u = v i → ∃ M', mX6_noteHolders_3 f (sI M 66 (bk L i).2.1 u) l (nI many) (nI x) (bz st) (nI (i + 1)) = some M' ∧ Off 66 1 M M' ∧ ∀ n, n < 33 → M'.1 66 n = tab L (min many L.length) x v T n := by
          intro u hu
          have o : Off 66 1 M (sI M 66 (bk L i).2.1 u) := sI_Off (by omega)
          obtain ⟨M', g1, g2, g3⟩ := ih (i + 1) (sI M 66 (bk L i).2.1 u) (by omega) (by omega) (hL.off o (by omega)) (fun n hn => by
            unfold tab
            rw [sI1, look_succ]
            by_cases e : (bk L i).2.1 = n
            · rw [if_pos ⟨rfl, e.symm⟩, if_pos (by rw [cm, decide_eq_true e]; rfl), hu]
            · rw [if_neg (fun q => e q.2.symm), if_neg (by rw [decide_eq_false e, Bool.and_false]; decide)]
              exact hT n hn)
          exact ⟨M', g1, o.tr g2, g3⟩
        cases st with
        | true =>
          rw [if_neg (show ¬ bz true = 0 from one_ne), ckI (by omega) (by omega), ckI (n := 33) (by omega) (by omega), e3, nI_cl (by omega), nmd, nmd, nI_1]
          exact go _ (by rw [hv]; rfl)
        | false =>
          rw [if_pos (show bz false = 0 from rfl), ckI (n := 33) (by omega) (by omega), nI_cl (by omega), nmd, nmd, nI_1]
          exact go _ (by rw [hv]; rfl)
      · have cm : mt (bk L i) x = false := Bool.eq_false_iff.mpr (fun q => c (mt_iff.mp q))
        rw [if_neg c, if_pos rfl, nmd, nI_1]
        refine ih (i + 1) M (by omega) (by omega) hL (fun n hn => ?_)
        unfold tab
        rw [look_succ, if_neg (by rw [cm, Bool.false_and]; decide)]
        exact hT n hn
    · have e : i = min many L.length := by omega
      by_cases q : many ≤ i
      · rw [if_pos (nI_le q (by omega)), ← e]
        exact ⟨M, rfl, Off.rf, hT⟩
      · rw [if_neg (nI_ge (by omega) (by omega)), if_pos (nI_le (by omega) (by omega)), ← e]
        exact ⟨M, rfl, Off.rf, hT⟩
/-- the GOAL of the LINE of n bits that leads x behind k STEPS -/
def val (S U V : List L3) (k x n : Nat) : Option Nat := match look V (k - U.length) x n with
  | some _ => none
  | none => match look U (min k U.length) x n with
    | some j => some (bk U j).2.2
    | none => match look S S.length x n with
      | some i => some (bk S i).2.2
      | none => none
def oG : Option Nat → Int32
  | none => -1
  | some g => nI g
/-- the answer: of the most bits -/
def best (f : Nat → Option Nat) : Nat → Nat
  | 0 => 16
  | n + 1 => match f n with
    | some g => g
    | none => best f n
theorem m_led_95 {M : gMem} {f : Nat → Option Nat} (hT : ∀ n, n < 33 → M.1 66 n = oG (f n)) (hg : ∀ n g, f n = some g → g ≤ 16) : ∀ fu n, n ≤ 33 → n < fu → mX6_goalBehind_95 fu M (nI n - 1) = some (nI (best f n), M) := by
  intro fu
  induction fu with
  | zero => intro n _ h; omega
  | succ fu ih =>
    intro n hn hf
    rw [mX6_goalBehind_95]
    cases n with
    | zero => rw [if_pos (by decide)]; rfl
    | succ n =>
      rw [nI_pred, if_neg (nI_pos (by omega)), ckI (by omega) (by omega), nI_cl (by omega), hT n (by omega)]
      cases q : f n with
      | none =>
        rw [oG, if_pos rfl, nmd, i32_m1, ih n (by omega) (by omega), best, q]
      | some g =>
        have := hg n g q
        rw [oG, if_neg (nI_m1 (by omega)), ckI (by omega) (by omega), best, q]
theorem m_led_16 {k x : Int32} : ∀ fu n (M : gMem), n ≤ 33 → 33 - n < fu → (∀ j, j < n → M.1 66 j = -1) → ∃ M', (∀ j, j < 33 → M'.1 66 j = -1) ∧ Off 66 1 M M' ∧ mX6_goalBehind_16 fu M k x (nI n) = ((mX6_noteHolders M' 54 (M'.1 54 4) x 1).bind fun r2 => (mX6_noteHolders r2 58 (if (r2.1 58 4) < k then (r2.1 58 4) else k) x 1).bind fun r3 => (mX6_noteHolders r3 62 (k - (r3.1 58 4)) x 0).bind fun r4 => mX6_goalBehind_95 FU r4 32) := by
  intro fu
  induction fu with
  | zero => intro n M _ h; omega
  | succ fu ih =>
    intro n M hn hf hT
    rw [mX6_goalBehind_16]
    by_cases z : n = 33
    · subst z
      rw [if_pos (show (33 : Int32) ≤ nI 33 by decide)]
      exact ⟨M, hT, Off.rf, rfl⟩
    · rw [if_neg (show ¬ (33 : Int32) ≤ nI n from nI_ge (b := 33) (by omega) (by omega)), ckI (by omega) (by omega), nI_cl (by omega), nmd, nmd, nI_1]
      obtain ⟨M', g1, g2, g3⟩ := ih (n + 1) (sI M 66 n (-1)) (by omega) (by omega) (fun j hj => by
        rw [sI1]
        by_cases e : j = n
        · rw [if_pos ⟨rfl, e⟩]
        · rw [if_neg (fun q => e q.2)]; exact hT j (by omega))
      exact ⟨M', g1, (sI_Off (by omega)).tr g2, g3⟩
theorem m_led {M : gMem} {S U V : List L3} {k x : Nat} (hS : LB M 54 S) (hU : LB M 58 U) (hV : LB M 62 V) (wS : ∀ i, i < S.length → wfL (bk S i)) (wU : ∀ i, i < U.length → wfL (bk U i)) (wV : ∀ i, i < V.length → wfL (bk V i)) (hs : M.1 53 4 = nI (U.length + V.length)) (hk : k ≤ U.length + V.length) (hx : x < 4294967296) : ∃ M', mX6_goalBehind M (nI k) (nI x) = some (nI (best (val S U V k x) 33), M') ∧ Off 66 1 M M' := by
  have hfu := FU_big
  have a1 := hS.1; have a2 := hU.1; have a3 := hV.1
  rw [ln54] at a1
  rw [ln58] at a2
  rw [ln62] at a3
  rw [mX6_goalBehind, hs, if_neg (nI_pos (by omega)), if_pos (nI_le hk (by omega))]
  obtain ⟨M0, t0, o0, e0⟩ := m_led_16 (k := nI k) (x := nI x) FU 0 M (by omega) (by omega) (fun j hj => by omega)
  have e0' : mX6_goalBehind_16 FU M (nI k) (nI x) 0 = _ := e0
  have hS0 := hS.off o0 (by omega)
  obtain ⟨M1, f1, o1, t1⟩ := m_note_loop (st := true) (T := fun _ => -1) (many := S.length) hx (by omega) wS (by omega) _ rfl FU 0 M0 (by omega) (by omega) hS0 (fun n hn => by rw [t0 n hn]; rfl)
  have hU1 := (hU.off o0 (by omega)).off o1 (by omega)
  obtain ⟨M2, f2, o2, t2⟩ := m_note_loop (st := true) (T := tab S (min S.length S.length) x (fun j => if true = true then nI (bk S j).2.2 else -1) (fun _ => -1)) (many := min U.length k) hx (by omega) wU (by omega) _ rfl FU 0 M1 (by omega) (by omega) hU1 (fun n hn => by rw [t1 n hn]; rfl)
  have hU2 := hU1.off o2 (by omega)
  have hV2 := ((hV.off o0 (by omega)).off o1 (by omega)).off o2 (by omega)
  have third : ∃ M3, mX6_noteHolders M2 62 (nI k - nI U.length) (nI x) 0 = some M3 ∧ Off 66 1 M2 M3 ∧ ∀ n, n < 33 → M3.1 66 n = oG (val S U V k x n) := by
    have base : ∀ n, n < 33 → M2.1 66 n = oG (match look U (min k U.length) x n with
        | some j => some (bk U j).2.2
        | none => match look S S.length x n with
          | some i => some (bk S i).2.2
          | none => none) := by
      intro n hn
      rw [t2 n hn, show min (min U.length k) U.length = min k U.length by omega]
      unfold tab
      rw [Nat.min_self]
      cases look U (min k U.length) x n with
      | some j => rfl
      | none =>
        cases look S S.length x n with
        | some i => rfl
        | none => rfl
    by_cases c : U.length ≤ k
    · obtain ⟨M3, f3, o3, t3⟩ := m_note_loop (st := false) (T := fun n => M2.1 66 n) (many := k - U.length) hx (by omega) wV (by omega) _ rfl FU 0 M2 (by omega) (by omega) hV2 (fun n hn => rfl)
      have f3' : mX6_noteHolders_3 FU M2 62 (nI (k - U.length)) (nI x) 0 0 = some M3 := f3
      refine ⟨M3, by rw [mX6_noteHolders, pk_sub c, f3'], o3, fun n hn => ?_⟩
      rw [t3 n hn, show min (k - U.length) V.length = k - U.length by omega]
      unfold tab val
      cases look V (k - U.length) x n with
      | some j => rfl
      | none => exact base n hn
    · refine ⟨M2, ?_, Off.rf, fun n hn => ?_⟩
      · rw [mX6_noteHolders]
        obtain ⟨F, hF⟩ : ∃ F, FU = F + 1 := ⟨FU - 1, by omega⟩
        rw [hF, mX6_noteHolders_3, if_pos]
        have : nI k - nI U.length < 0 := pk_sneg (by omega) (by omega)
        rw [Int32.lt_iff_toInt_lt] at this
        rw [Int32.le_iff_toInt_le]
        omega
      · rw [base n hn]
        unfold val
        rw [show k - U.length = 0 by omega]
        rfl
  obtain ⟨M3, f3, o3, t3⟩ := third
  have f1' : mX6_noteHolders_3 FU M0 54 (nI S.length) (nI x) 1 0 = some M1 := f1
  have f2' : mX6_noteHolders_3 FU M1 58 (nI (min U.length k)) (nI x) 1 0 = some M2 := f2
  rw [e0', mX6_noteHolders, hS0.2.2.1, f1', Option.bind_some, hU1.2.2.1, nI_min (by omega) (by omega), mX6_noteHolders, f2', Option.bind_some, hU2.2.2.1, f3, Option.bind_some]
  have gl : ∀ n g, val S U V k x n = some g → g ≤ 16 := by
    intro n g q
    unfold val at q
    cases c1 : look V (k - U.length) x n with
    | some j => rw [c1] at q; cases q
    | none =>
      rw [c1] at q
      cases c2 : look U (min k U.length) x n with
      | some j =>
        rw [c2] at q
        cases q
        have := (lastP_some.mp c2).1
        exact (wU j (by omega)).2.2.1
      | none =>
        rw [c2] at q
        cases c3 : look S S.length x n with
        | some j => rw [c3] at q; cases q; exact (wS j (lastP_some.mp c3).1).2.2.1
        | none => rw [c3] at q; cases q
  have fin := m_led_95 t3 gl FU 33 (by omega) (by omega)
  have fin' : mX6_goalBehind_95 FU M3 32 = _ := fin
  rw [fin']
  exact ⟨M3, rfl, ((o0.tr o1).tr o2).tr o3⟩
