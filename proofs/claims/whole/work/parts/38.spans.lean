/-! the class's SPANS -/
def SPN (M : gMem) (s : Nat) (R : List P2) (t : Nat) : Prop := R.length ≤ 129 ∧ t ≤ 4294967296 ∧ M.1 s 2 = nI R.length ∧ M.2 s 3 = lN t ∧ ∀ i, i < R.length → M.2 (s + 1) i = lN (ck2 R i).1 ∧ M.1 (s + 2) i = nI (ck2 R i).2
theorem extR_len {R : List P2} {t g : Nat} : (extR R t g).length ≤ R.length + 1 := by
  unfold extR
  split
  · omega
  · rw [List.length_append]; exact Nat.le_refl _
theorem m_reach {M : gMem} {s : Nat} {R : List P2} {t e g : Nat} (h : SPN M s R t) (hR : R.length < 129) (hgs : ∀ i, i < R.length → (ck2 R i).2 ≤ 16) (he : e ≤ 4294967296) (hg : g ≤ 16) : ∃ M', mX3_reach M s (lN e) (nI g) = some M' ∧ SPN M' s (if t < e then extR R t g else R) (if t < e then e else t) ∧ Off s 4 M M' ∧ M'.1 (s + 3) = M.1 (s + 3) ∧ M'.1 s 5 = M.1 s 5 := by
  obtain ⟨h1, h2, h3, h4, h5⟩ := h
  rw [mX3_reach, h4]
  by_cases c : t < e
  · rw [if_pos ((lN_lt' (by omega) (by omega)).mpr c), h3, if_pos c, if_pos c]
    have push : (¬ (0 < R.length ∧ (ck2 R (R.length - 1)).2 = g)) → ∃ M', mX3_reach_37 M s (lN e) (nI g) 0 = some M' ∧ SPN M' s (extR R t g) e ∧ Off s 4 M M' ∧ M'.1 (s + 3) = M.1 (s + 3) ∧ M'.1 s 5 = M.1 s 5 := by
      intro hc
      rw [mX3_reach_37, if_pos rfl, h3, if_neg (show ¬ (129 : Int32) ≤ nI R.length from nI_ge (b := 129) hR (by omega)), ckI (by omega) (by omega), nI_cl (by omega), h4, nmd]
      have e1 : (sJ M (s + 1) R.length (lN t)).1 s 2 = nI R.length := by rw [sJ1, h3]
      rw [e1, ckI (by omega) (by omega), nI_cl (by omega), nmd, nmd]
      have e2 : (sI (sJ M (s + 1) R.length (lN t)) (s + 2) R.length (nI g)).1 s 2 = nI R.length := by rw [sI1, if_neg (by omega), sJ1, h3]
      rw [e2, nmd, nI_1]
      have hx : extR R t g = R ++ [(t, g)] := by unfold extR; rw [if_neg hc]
      have len : (R ++ [(t, g)]).length = R.length + 1 := by rw [List.length_append]; rfl
      rw [hx]
      refine ⟨_, rfl, ⟨by rw [len]; omega, he, ?_, ?_, fun i hi => ?_⟩, ?_, ?_, ?_⟩
      · rw [sJ1, sI1, if_pos ⟨rfl, rfl⟩, len]
      · rw [sJ2, if_pos ⟨rfl, rfl⟩]
      · rw [len] at hi
        rw [sJ1, sJ2, if_neg (show ¬ (s + 1 = s ∧ i = 3) by omega), sI2, sI2, sJ2, sI1, if_neg (show ¬ (s + 2 = s ∧ i = 2) by omega), sI1, sJ1, ck2_app i (by omega)]
        by_cases k1 : i < R.length
        · have c1 : ¬ (s + 1 = s + 1 ∧ i = R.length) := by omega
          have c2 : ¬ (s + 2 = s + 2 ∧ i = R.length) := by omega
          rw [if_neg c1, if_neg c2, if_pos k1]
          exact h5 i k1
        · have c1 : s + 1 = s + 1 ∧ i = R.length := by omega
          have c2 : s + 2 = s + 2 ∧ i = R.length := by omega
          rw [if_pos c1, if_pos c2, if_neg k1]
          exact ⟨rfl, rfl⟩
      · exact (((sJ_Off (by omega)).tr (sI_Off (by omega))).tr (sI_Off (by omega))).tr (sJ_Off (by omega))
      · rw [sJ1, (sI_off _ (by omega)).1, (sI_off _ (by omega)).1, sJ1]
      · rw [sJ1, sI1, if_neg (by omega), sI1, if_neg (by omega), sJ1]
    by_cases z : R.length = 0
    · rw [if_pos (by rw [z]; decide)]
      exact push (by omega)
    · rw [if_neg (nI_nle (by omega) (by omega)), show nI R.length - (1 : Int32) = nI (R.length - 1) from pk_sub (b := 1) (by omega), ckI (by omega) (by omega), nI_cl (by omega), (h5 _ (by omega)).2]
      have hq := hgs (R.length - 1) (by omega)
      by_cases hc : (ck2 R (R.length - 1)).2 = g
      · rw [if_pos (by rw [hc]), mX3_reach_37, if_neg one_ne, nmd]
        have hx : extR R t g = R := by unfold extR; rw [if_pos ⟨by omega, hc⟩]
        rw [hx]
        refine ⟨_, rfl, ⟨h1, he, by rw [sJ1]; exact h3, by rw [sJ2, if_pos ⟨rfl, rfl⟩], fun i hi => ?_⟩, sJ_Off (by omega), by rw [sJ1], by rw [sJ1]⟩
        rw [sJ1, sJ2, if_neg (by omega)]
        exact h5 i hi
      · rw [if_neg (fun q => hc ((nI_inj (by omega) (by omega)).mp q))]
        exact push (fun q => hc q.2)
  · rw [if_neg (fun q => c ((lN_lt' (by omega) (by omega)).mp q)), if_neg c, if_neg c]
    exact ⟨M, rfl, ⟨h1, h2, h3, h4, h5⟩, Off.rf, rfl, rfl⟩
/-- the LINES that stand open at t: among those ahead of i, by their places sg 0 .. sg (n - 1) -/
def OPN (B : List L3) (i t n : Nat) (sg : Nat → Nat) : Prop := (∀ k, k < n → sg k < i) ∧ (∀ k k', k < k' → k' < n → sg k < sg k' ∧ en (bk B (sg k')) ≤ en (bk B (sg k))) ∧ (∀ j, j < i → t < en (bk B j) → ∃ k, k < n ∧ sg k = j) ∧ (∀ k, k < n → t ≤ en (bk B (sg k))) ∧ (∀ j, j < i → (bk B j).1 ≤ t) ∧ ∀ k, k < n → k ≤ (bk B (sg k)).2.1
def STK (M : gMem) (s n : Nat) (sg : Nat → Nat) : Prop := n ≤ 33 ∧ M.1 s 5 = nI n ∧ ∀ k, k < n → M.1 (s + 3) k = nI (sg k)
theorem lead_top {B : List L3} (hw : wfB B) {i t n A x : Nat} {sg : Nat → Nat} (hi : i ≤ B.length) (h : OPN B i t n sg) (hn : 0 < n) (hA : ∀ j, i ≤ j → j < B.length → A ≤ (bk B j).1) (x1 : t ≤ x) (x2 : x < A) (x3 : x < en (bk B (sg (n - 1)))) : leads B x = (bk B (sg (n - 1))).2.2 := by
  obtain ⟨o1, o2, o3, o4, o5, o6⟩ := h
  have hs := o1 (n - 1) (by omega)
  have e : holder B B.length x = some (sg (n - 1)) := by
    refine lastP_some.mpr ⟨by omega, ?_, fun j j1 j2 => ?_⟩
    · refine (mt_range (hw.1 _ (by omega)) x).mpr ⟨?_, x3⟩
      have := o5 (sg (n - 1)) hs
      omega
    · apply Bool.eq_false_iff.mpr
      intro q
      have r := (mt_range (hw.1 j j2) x).mp q
      by_cases ji : j < i
      · obtain ⟨k, k1, k2⟩ := o3 j ji (by omega)
        by_cases kn : k = n - 1
        · rw [kn] at k2; omega
        · have := (o2 k (n - 1) (by omega) (by omega)).1
          omega
      · have := hA j (by omega) j2
        omega
  unfold leads
  rw [e]
  rfl
theorem lead_none {B : List L3} (hw : wfB B) {i t A x : Nat} {sg : Nat → Nat} (hi : i ≤ B.length) (h : OPN B i t 0 sg) (hA : ∀ j, i ≤ j → j < B.length → A ≤ (bk B j).1) (x1 : t ≤ x) (x2 : x < A) : leads B x = 16 := by
  obtain ⟨o1, o2, o3, o4, o5, o6⟩ := h
  have e : holder B B.length x = none := by
    refine lastP_none.mpr fun j j2 => ?_
    apply Bool.eq_false_iff.mpr
    intro q
    have r := (mt_range (hw.1 j j2) x).mp q
    by_cases ji : j < i
    · obtain ⟨k, k1, k2⟩ := o3 j ji (by omega)
      omega
    · have := hA j (by omega) j2
      omega
  unfold leads
  rw [e]
  rfl
theorem m_reachEnd {M : gMem} {s l : Nat} {B : List L3} {R : List P2} {t n A : Nat} {sg : Nat → Nat} (hL : LB M l B) (hw : wfB B) {i : Nat} (hi : i ≤ B.length) (hS : SPN M s R t) (hp : pruns (leads B) R t) (hO : OPN B i t n sg) (hK : STK M s n sg) (hA : ∀ j, i ≤ j → j < B.length → A ≤ (bk B j).1) (hA2 : A ≤ 4294967296) (htA : t ≤ A) (hR : R.length < 129) (hstop : 0 < n → A < en (bk B (sg (n - 1)))) : ∃ M' R', mX3_reachStart_73 M s l (lN A) = some M' ∧ SPN M' s R' A ∧ pruns (leads B) R' A ∧ Off s 4 M M' ∧ STK M' s n sg ∧ R'.length ≤ R.length + 1 := by
  have gs : ∀ i, i < R.length → (ck2 R i).2 ≤ 16 := by
    intro i hi
    have := hp.2.2.2.2 i hi (ck2 R i).1 (Nat.le_refl _) (by
      unfold rend
      by_cases z : i + 1 < R.length
      · rw [if_pos z]; exact (hp.2.2.1 i z).1
      · rw [if_neg z]; exact hp.2.2.2.1 i hi)
    rw [← this]
    exact leads_le hw _
  have fin : ∀ g, g ≤ 16 → (∀ x, t ≤ x → x < A → leads B x = g) → ∃ M' R', mX3_reach M s (lN A) (nI g) = some M' ∧ SPN M' s R' A ∧ pruns (leads B) R' A ∧ Off s 4 M M' ∧ STK M' s n sg ∧ R'.length ≤ R.length + 1 := by
    intro g hg hF
    obtain ⟨M', e, q1, q2, q3, q4⟩ := m_reach hS hR gs hA2 hg
    by_cases c : t < A
    · rw [if_pos c, if_pos c] at q1
      exact ⟨M', _, e, q1, pruns_ext hp c hF, q2, ⟨hK.1, by rw [q4]; exact hK.2.1, by rw [q3]; exact hK.2.2⟩, extR_len⟩
    · rw [if_neg c, if_neg c] at q1
      have : t = A := by omega
      subst this
      exact ⟨M', _, e, q1, hp, q2, ⟨hK.1, by rw [q4]; exact hK.2.1, by rw [q3]; exact hK.2.2⟩, by omega⟩
  have k1 := hK.1
  rw [mX3_reachStart_73, hK.2.1]
  by_cases z : n = 0
  · subst z
    rw [if_pos (by decide)]
    obtain ⟨M', R', e, q⟩ := fin 16 (by omega) (fun x x1 x2 => lead_none hw hi hO hA x1 x2)
    rw [show (16 : Int32) = nI 16 from rfl, e, Option.bind_some]
    exact ⟨M', R', rfl, q⟩
  · have hs := hO.1 (n - 1) (by omega)
    have h1 := hL.1; have h2 := hL.2.1
    rw [if_neg (nI_nle (by omega) (by omega)), show nI n - (1 : Int32) = nI (n - 1) from pk_sub (b := 1) (by omega), ckI (by omega) (by omega), nI_cl (by omega), hK.2.2 (n - 1) (by omega), ckI (by omega) (by omega), nI_cl (by omega), (hL.2.2.2.2 (sg (n - 1)) (by omega)).2.2]
    obtain ⟨M', R', e, q⟩ := fin (bk B (sg (n - 1))).2.2 (hw.1 _ (by omega)).2.2.1 (fun x x1 x2 => lead_top hw hi hO (by omega) hA x1 x2 (by have := hstop (by omega); omega))
    rw [e, Option.bind_some]
    exact ⟨M', R', rfl, q⟩
theorem m_reachStart_loop {s l : Nat} {B : List L3} (hs : l + 4 ≤ s ∨ s + 4 ≤ l) (hw : wfB B) {i A : Nat} (hi : i ≤ B.length) (hA : ∀ j, i ≤ j → j < B.length → A ≤ (bk B j).1) (hA2 : A ≤ 4294967296) {sg : Nat → Nat} : ∀ f n (M : gMem) (R : List P2) (t : Nat), n < f → LB M l B → SPN M s R t → pruns (leads B) R t → OPN B i t n sg → STK M s n sg → t ≤ A → R.length + n < 129 → ∃ M' R' n', mX3_reachStart_0 f M s l (lN A) = some M' ∧ SPN M' s R' A ∧ pruns (leads B) R' A ∧ Off s 4 M M' ∧ STK M' s n' sg ∧ OPN B i A n' sg ∧ n' ≤ n ∧ R'.length + n' ≤ R.length + n + 1 ∧ (0 < n' → A < en (bk B (sg (n' - 1)))) := by
  intro f
  induction f with
  | zero => intro n M R t h; omega
  | succ f ih =>
    intro n M R t hf hL hS hp hO hK htA hR
    have k1 := hK.1
    have h1 := hL.1; have h2 := hL.2.1
    have keepO : (∀ k, k < n → A ≤ en (bk B (sg k))) → OPN B i A n sg := fun q => ⟨hO.1, hO.2.1, fun j j1 j2 => hO.2.2.1 j j1 (by omega), q, fun j j1 => by have := hO.2.2.2.2.1 j j1; omega, hO.2.2.2.2.2⟩
    rw [mX3_reachStart_0, hK.2.1]
    by_cases z : n = 0
    · subst z
      rw [if_pos (by decide)]
      obtain ⟨M', R', e, q1, q2, q3, q4, q5⟩ := m_reachEnd hL hw hi hS hp hO hK hA hA2 htA (by omega) (fun q => by omega)
      exact ⟨M', R', 0, e, q1, q2, q3, q4, keepO (fun k hk => by omega), by omega, by omega, fun q => by omega⟩
    · have hsn := hO.1 (n - 1) (by omega)
      have hwf := hw.1 (sg (n - 1)) (by omega)
      have hen := en_le hwf
      have hpos : 0 < en (bk B (sg (n - 1))) := by unfold en; have := pw_pos (32 - (bk B (sg (n - 1))).2.1); omega
      rw [if_neg (nI_nle (by omega) (by omega)), show nI n - (1 : Int32) = nI (n - 1) from pk_sub (b := 1) (by omega), ckI (by omega) (by omega), nI_cl (by omega), hK.2.2 (n - 1) (by omega), m_last hL (by omega) hwf, Option.bind_some]
      by_cases c : A ≤ en (bk B (sg (n - 1))) - 1
      · rw [if_pos ((lN_le' (by omega) (by omega)).mpr c)]
        obtain ⟨M', R', e, q1, q2, q3, q4, q5⟩ := m_reachEnd hL hw hi hS hp hO hK hA hA2 htA (by omega) (fun q => by omega)
        refine ⟨M', R', n, e, q1, q2, q3, q4, keepO (fun k hk => ?_), by omega, by omega, fun q => by omega⟩
        by_cases kn : k = n - 1
        · rw [kn]; omega
        · have := (hO.2.1 k (n - 1) (by omega) (by omega)).2; omega
      · rw [if_neg (fun q => c ((lN_le' (by omega) (by omega)).mp q)), nmd]
        have hL5 : LB (sI M s 5 (nI (n - 1))) l B := hL.off (sI_Off (l := s) (n := 4) (by omega)) (by omega)
        have e5 : (sI M s 5 (nI (n - 1))).1 s 5 = nI (n - 1) := by rw [sI1, if_pos ⟨rfl, rfl⟩]
        have e6 : (sI M s 5 (nI (n - 1))).1 (s + 3) (n - 1) = nI (sg (n - 1)) := by rw [sI1, if_neg (by omega)]; exact hK.2.2 (n - 1) (by omega)
        have g16 := hwf.2.2.1
        rw [e5, ckI (by omega) (by omega), nI_cl (by omega), e6, m_last hL5 (by omega) hwf, Option.bind_some, ckI (by omega) (by omega), ckI (by omega) (by omega), nI_cl (by omega), (hL5.2.2.2.2 _ (by omega)).2.2, lN_1, show en (bk B (sg (n - 1))) - 1 + 1 = en (bk B (sg (n - 1))) by omega]
        have hS5 : SPN (sI M s 5 (nI (n - 1))) s R t := ⟨hS.1, hS.2.1, by rw [sI1, if_neg (by omega)]; exact hS.2.2.1, hS.2.2.2.1, fun k hk => by rw [sI1, if_neg (by omega)]; exact hS.2.2.2.2 k hk⟩
        have gs : ∀ i, i < R.length → (ck2 R i).2 ≤ 16 := by
          intro i hi
          have := hp.2.2.2.2 i hi (ck2 R i).1 (Nat.le_refl _) (by
            unfold rend
            by_cases z : i + 1 < R.length
            · rw [if_pos z]; exact (hp.2.2.1 i z).1
            · rw [if_neg z]; exact hp.2.2.2.1 i hi)
          rw [← this]
          exact leads_le hw _
        obtain ⟨M1, e1, q1, q2, q3, q4⟩ := m_reach (e := en (bk B (sg (n - 1)))) hS5 (by omega) gs hen g16
        rw [e1, Option.bind_some]
        have hte := hO.2.2.2.1 (n - 1) (by omega)
        have o5 : Off s 4 M M1 := (sI_Off (by omega)).tr q2
        have hL1 : LB M1 l B := hL.off o5 (by omega)
        have hO1 : OPN B i (en (bk B (sg (n - 1)))) (n - 1) sg := by
          refine ⟨fun k hk => hO.1 k (by omega), fun k k' a b => hO.2.1 k k' a (by omega), fun j j1 j2 => ?_, fun k hk => (hO.2.1 k (n - 1) (by omega) (by omega)).2, fun j j1 => by have := hO.2.2.2.2.1 j j1; omega, fun k hk => hO.2.2.2.2.2 k (by omega)⟩
          obtain ⟨k, k1, k2⟩ := hO.2.2.1 j j1 (by omega)
          refine ⟨k, ?_, k2⟩
          by_cases kn : k = n - 1
          · rw [kn] at k2; rw [k2] at j2; omega
          · omega
        have hK1 : STK M1 s (n - 1) sg := ⟨by omega, by rw [q4, e5], fun k hk => by rw [q3, sI1, if_neg (by omega)]; exact hK.2.2 k (by omega)⟩
        by_cases tc : t < en (bk B (sg (n - 1)))
        · rw [if_pos tc, if_pos tc] at q1
          have len := extR_len (R := R) (t := t) (g := (bk B (sg (n - 1))).2.2)
          obtain ⟨M', R', n', a1, a2, a3, a4, a5, a6, a7, a8, a9⟩ := ih (n - 1) M1 _ _ (by omega) hL1 q1 (pruns_ext hp tc (fun x x1 x2 => lead_top hw hi hO (by omega) hA x1 (by omega) x2)) hO1 hK1 (by omega) (by omega)
          exact ⟨M', R', n', a1, a2, a3, o5.tr a4, a5, a6, by omega, by omega, a9⟩
        · rw [if_neg tc, if_neg tc] at q1
          have te : t = en (bk B (sg (n - 1))) := by omega
          rw [← te] at hO1
          obtain ⟨M', R', n', a1, a2, a3, a4, a5, a6, a7, a8, a9⟩ := ih (n - 1) M1 _ _ (by omega) hL1 q1 hp hO1 hK1 htA (by omega)
          exact ⟨M', R', n', a1, a2, a3, o5.tr a4, a5, a6, by omega, by omega, a9⟩
theorem m_measure_loop {s l : Nat} {B : List L3} (hs : l + 4 ≤ s ∨ s + 4 ≤ l) (hw : wfB B) (hl : B.length ≤ 64) : ∀ f i n (M : gMem) (R : List P2) (t : Nat) (sg : Nat → Nat), i ≤ B.length → B.length - i < f → LB M l B → SPN M s R t → pruns (leads B) R t → OPN B i t n sg → STK M s n sg → (∀ j, i ≤ j → j < B.length → t ≤ (bk B j).1) → R.length + n ≤ 2 * i → ∃ M' R', mX3_measure_17 f M s l (nI i) = some M' ∧ SPN M' s R' 4294967296 ∧ pruns (leads B) R' 4294967296 ∧ Off s 4 M M' := by
  intro f
  induction f with
  | zero => intro i n M R t sg _ h; omega
  | succ f ih =>
    intro i n M R t sg hi hf hL hS hp hO hK ht hc
    have hfu := FU_big
    have h1 := hL.1; have h2 := hL.2.1
    rw [mX3_measure_17, hL.2.2.1]
    by_cases z : i < B.length
    · have w := hw.1 i z
      have w1 := w.1
      rw [if_neg (nI_ge z (by omega)), m_first hL z w, Option.bind_some]
      have hA : ∀ j, i ≤ j → j < B.length → (bk B i).1 ≤ (bk B j).1 := by
        intro j j1 j2
        by_cases e : i = j
        · rw [e]; exact Nat.le_refl _
        · have := hw.2 i j (by omega) j2; unfold ltL at this; omega
      have k33 := hK.1
      obtain ⟨M1, R1, n1, a1, a2, a3, a4, a5, a6, a7, a8, a9⟩ := m_reachStart_loop hs hw hi hA (by omega) FU n M R t (by omega) hL hS hp hO hK (ht i (Nat.le_refl _) z) (by omega)
      rw [mX3_reachStart, a1, Option.bind_some, a5.2.1]
      have top : 0 < n1 → (bk B (sg (n1 - 1))).2.1 < (bk B i).2.1 ∧ en (bk B i) ≤ en (bk B (sg (n1 - 1))) := by
        intro q
        have q1 := a6.1 (n1 - 1) (by omega)
        have q2 := a6.2.2.2.2.1 _ q1
        have m1 : mt (bk B (sg (n1 - 1))) (bk B i).1 = true := (mt_range (hw.1 _ (by omega)) _).mpr ⟨q2, a9 q⟩
        have m2 : mt (bk B i) (bk B i).1 = true := (mt_range w _).mpr ⟨Nat.le_refl _, by unfold en; have := pw_pos (32 - (bk B i).2.1); omega⟩
        exact ⟨mt_lt hw q1 z m1 m2, en_nest hw q1 z m1 m2⟩
      have n33 : n1 < 33 := by
        by_cases q : 0 < n1
        · have := a6.2.2.2.2.2 (n1 - 1) (by omega)
          have := (top q).1
          have := w.2.1
          omega
        · omega
      rw [if_neg (show ¬ (33 : Int32) ≤ nI n1 from nI_ge (b := 33) n33 (by omega)), ckI (by omega) (by omega), nI_cl (by omega), nmd, nmd, nmd, nI_1]
      have e5 : (sI M1 (s + 3) n1 (nI i)).1 s 5 = nI n1 := by rw [sI1, if_neg (by omega)]; exact a5.2.1
      rw [e5, nI_1]
      have oo : Off s 4 M (sI (sI M1 (s + 3) n1 (nI i)) s 5 (nI (n1 + 1))) := (a4.tr (sI_Off (by omega))).tr (sI_Off (by omega))
      have hO' : OPN B (i + 1) (bk B i).1 (n1 + 1) (fun k => if k = n1 then i else sg k) := by
        refine ⟨?_, ?_, ?_, ?_, ?_, ?_⟩
        · intro k hk
          show (if k = n1 then i else sg k) < i + 1
          split
          · omega
          · have := a6.1 k (by omega); omega
        · intro k k' c1 c2
          show (if k = n1 then i else sg k) < (if k' = n1 then i else sg k') ∧ en (bk B (if k' = n1 then i else sg k')) ≤ en (bk B (if k = n1 then i else sg k))
          rw [if_neg (show ¬ k = n1 by omega)]
          by_cases kn : k' = n1
          · rw [if_pos kn]
            have q1 := a6.1 k (by omega)
            refine ⟨q1, ?_⟩
            have q2 := (top (by omega)).2
            by_cases kk : k = n1 - 1
            · rw [kk]; exact q2
            · have := (a6.2.1 k (n1 - 1) (by omega) (by omega)).2; omega
          · rw [if_neg kn]
            exact a6.2.1 k k' c1 (by omega)
        · intro j j1 j2
          by_cases e : j = i
          · exact ⟨n1, by omega, by show (if n1 = n1 then i else sg n1) = j; rw [if_pos rfl, e]⟩
          · obtain ⟨k, k1, k2⟩ := a6.2.2.1 j (by omega) j2
            exact ⟨k, by omega, by show (if k = n1 then i else sg k) = j; rw [if_neg (by omega), k2]⟩
        · intro k hk
          show (bk B i).1 ≤ en (bk B (if k = n1 then i else sg k))
          split
          · exact Nat.le_add_right _ _
          · exact a6.2.2.2.1 k (by omega)
        · intro j j1
          by_cases e : j = i
          · rw [e]; exact Nat.le_refl _
          · exact a6.2.2.2.2.1 j (by omega)
        · intro k hk
          show k ≤ (bk B (if k = n1 then i else sg k)).2.1
          split
          · by_cases q : 0 < n1
            · have := a6.2.2.2.2.2 (n1 - 1) (by omega)
              have := (top q).1
              omega
            · omega
          · exact a6.2.2.2.2.2 k (by omega)
      have hK' : STK (sI (sI M1 (s + 3) n1 (nI i)) s 5 (nI (n1 + 1))) s (n1 + 1) (fun k => if k = n1 then i else sg k) := by
        refine ⟨by omega, by rw [sI1, if_pos ⟨rfl, rfl⟩], fun k hk => ?_⟩
        show (sI (sI M1 (s + 3) n1 (nI i)) s 5 (nI (n1 + 1))).1 (s + 3) k = nI (if k = n1 then i else sg k)
        rw [sI1, if_neg (by omega), sI1]
        by_cases e : k = n1
        · rw [if_pos ⟨rfl, e⟩, if_pos e]
        · rw [if_neg (fun q => e q.2), if_neg e]
          exact a5.2.2 k (by omega)
      obtain ⟨M', R', b1, b2, b3, b4⟩ := ih (i + 1) (n1 + 1) (sI (sI M1 (s + 3) n1 (nI i)) s 5 (nI (n1 + 1))) R1 (bk B i).1 (fun k => if k = n1 then i else sg k) (by omega) (by omega) (hL.off oo (by omega)) ⟨a2.1, a2.2.1, by rw [sI1, if_neg (by omega), sI1, if_neg (by omega)]; exact a2.2.2.1, a2.2.2.2.1, fun k hk => by rw [sI1, if_neg (by omega), sI1, if_neg (by omega)]; exact a2.2.2.2.2 k hk⟩ a3 hO' hK' (fun j j1 j2 => hA j (by omega) j2) (by omega)
      exact ⟨M', R', b1, b2, b3, oo.tr b4⟩
    · have hi2 : i = B.length := by omega
      have k33 := hK.1
      rw [if_pos (nI_le (by omega) (by omega)), show (4294967296 : Int64) = lN 4294967296 from rfl]
      obtain ⟨M1, R1, n1, a1, a2, a3, a4, a5, a6, a7, a8, a9⟩ := m_reachStart_loop (A := 4294967296) hs hw hi (fun j j1 j2 => by omega) (by omega) FU n M R t (by omega) hL hS hp hO hK hS.2.1 (by omega)
      rw [mX3_reachStart, a1, Option.bind_some]
      exact ⟨M1, R1, rfl, a2, a3, a4⟩
theorem m_measure {M : gMem} {s l : Nat} {B : List L3} (hs : l + 4 ≤ s ∨ s + 4 ≤ l) (hL : LB M l B) (hw : wfB B) (hl : B.length ≤ 64) : ∃ M' R, mX3_measure M s l = some M' ∧ SPN M' s R 4294967296 ∧ pruns (leads B) R 4294967296 ∧ Off s 4 M M' := by
  have hfu := FU_big
  rw [mX3_measure, nmd, nmd, nmd]
  have oo : Off s 4 M (sI (sJ (sI M s 2 0) s 3 0) s 5 0) := ((sI_Off (by omega)).tr (sJ_Off (by omega))).tr (sI_Off (by omega))
  obtain ⟨M', R', b1, b2, b3, b4⟩ := m_measure_loop hs hw hl FU 0 0 (sI (sJ (sI M s 2 0) s 3 0) s 5 0) [] 0 (fun _ => 0) (by omega) (by omega) (hL.off oo (by omega)) ⟨Nat.zero_le _, by omega, by rw [sI1, if_neg (by omega), sJ1, sI1, if_pos ⟨rfl, rfl⟩]; rfl, by rw [sI2, sJ2, if_pos ⟨rfl, rfl⟩]; rfl, fun i hi => absurd hi (Nat.not_lt_zero i)⟩ (pruns_nil _) ⟨fun k hk => by omega, fun k k' _ hk => by omega, fun j j1 => by omega, fun k hk => by omega, fun j j1 => by omega, fun k hk => by omega⟩ ⟨by omega, by rw [sI1, if_pos ⟨rfl, rfl⟩]; rfl, fun k hk => by omega⟩ (fun j _ _ => Nat.zero_le _) (by simp)
  exact ⟨M', R', b1, b2, b3, oo.tr b4⟩
