/-! the reference's makeSpans; spans, span, share -/
def mixG (how g h : Nat) : Nat := if how = 3 then g else if how = 0 then (if g = 16 then h else g) else if how = 1 then (if g = h then g else 16) else if how = 2 then (if h = 16 then g else 16) else 17 * g + h
def mixF (how : Nat) (A B : List L3) (x : Nat) : Nat := mixG how (leads A x) (leads B x)
theorem mixG_le {how g h : Nat} (hg : g ≤ 16) (hh : h ≤ 16) : mixG how g h ≤ 288 := by
  unfold mixG
  repeat' split
  all_goals omega
theorem r_leads4 {M : gMem} {a b how : Nat} {A B : List L3} (ha : a < 6) (hb : b < 6) (hA : RB M a A) (hB : RB M b B) (wA : wfB A) (wB : wfB B) (hh : how ≤ 4) {x : Nat} (hx : x < 4294967296) : mX8_leads_ M (nI how) (nI a) (nI b) (lN x) = some (nI (mixF how A B x)) := by
  have g1 := leads_le wA x
  have g2 := leads_le wB x
  rw [mX8_leads_, r_leads ha hA wA hx, Option.bind_some, r_leads hb hB wB hx, Option.bind_some]
  unfold mixF mixG
  have q16 : ∀ g, g ≤ 16 → (nI g = (16 : Int32) ↔ g = 16) := fun g hg => nI_inj (b := 16) (by omega) (by omega)
  rcases (show how = 0 ∨ how = 1 ∨ how = 2 ∨ how = 3 ∨ how = 4 by omega) with rfl | rfl | rfl | rfl | rfl
  · rw [if_neg (show ¬ nI 0 = (3 : Int32) by decide), if_pos (show  nI 0 = (0 : Int32) by decide), if_neg (show ¬ (0 : Nat) = 3 by decide), if_pos (show  (0 : Nat) = 0 by decide)]
    by_cases c : leads A x = 16
    · rw [if_pos ((q16 _ g1).mpr c), if_pos c]
    · rw [if_neg (fun q => c ((q16 _ g1).mp q)), if_neg c]
  · rw [if_neg (show ¬ nI 1 = (3 : Int32) by decide), if_neg (show ¬ nI 1 = (0 : Int32) by decide), if_pos (show  nI 1 = (1 : Int32) by decide), if_neg (show ¬ (1 : Nat) = 3 by decide), if_neg (show ¬ (1 : Nat) = 0 by decide), if_pos (show  (1 : Nat) = 1 by decide)]
    by_cases c : leads A x = leads B x
    · rw [if_pos (show nI (leads A x) = nI (leads B x) by rw [c]), if_pos c]
    · rw [if_neg (show ¬ nI (leads A x) = nI (leads B x) from fun q => c ((nI_inj (by omega) (by omega)).mp q)), if_neg c]; rfl
  · rw [if_neg (show ¬ nI 2 = (3 : Int32) by decide), if_neg (show ¬ nI 2 = (0 : Int32) by decide), if_neg (show ¬ nI 2 = (1 : Int32) by decide), if_pos (show  nI 2 = (2 : Int32) by decide), if_neg (show ¬ (2 : Nat) = 3 by decide), if_neg (show ¬ (2 : Nat) = 0 by decide), if_neg (show ¬ (2 : Nat) = 1 by decide), if_pos (show  (2 : Nat) = 2 by decide)]
    by_cases c : leads B x = 16
    · rw [if_pos ((q16 _ g2).mpr c), if_pos c]
    · rw [if_neg (fun q => c ((q16 _ g2).mp q)), if_neg c]; rfl
  · rw [if_pos (show  nI 3 = (3 : Int32) by decide), if_pos (show  (3 : Nat) = 3 by decide)]
  · rw [if_neg (show ¬ nI 4 = (3 : Int32) by decide), if_neg (show ¬ nI 4 = (0 : Int32) by decide), if_neg (show ¬ nI 4 = (1 : Int32) by decide), if_neg (show ¬ nI 4 = (2 : Int32) by decide), if_neg (show ¬ (4 : Nat) = 3 by decide), if_neg (show ¬ (4 : Nat) = 0 by decide), if_neg (show ¬ (4 : Nat) = 1 by decide), if_neg (show ¬ (4 : Nat) = 2 by decide), show (17 : Int32) = nI 17 from rfl, pk_mul, nI_add]
def SPR (M : gMem) (R : List P2) : Prop := R.length ≤ 300 ∧ M.1 0 4 = nI R.length ∧ ∀ i, i < R.length → M.2 5 i = lN (ck2 R i).1 ∧ M.1 6 i = nI (ck2 R i).2
def MSt (M : gMem) (i c : Nat) (R : List P2) (f : Nat → Nat) : Prop := M.1 0 4 = nI c ∧ R.length ≤ i ∧ (∀ k, k < R.length → M.2 5 k = lN (ck2 R k).1 ∧ M.1 6 k = nI (ck2 R k).2) ∧ ∀ k, i ≤ k → k < c → M.2 5 k = lN (f k)
def tAt (f : Nat → Nat) (c i : Nat) : Nat := if i < c then f i else 4294967296
theorem r_mk_loop {a b how c : Nat} {A B : List L3} {f : Nat → Nat} (ha : a < 6) (hb : b < 6) (wA : wfB A) (wB : wfB B) (hh : how ≤ 4) (hc : c ≤ 300) (hinc : ∀ i j, i < j → j < c → f i < f j) (hlt : ∀ i, i < c → f i < 4294967296) (hF : ∀ i, i < c → ∀ x, f i ≤ x → x < tAt f c (i + 1) → mixF how A B x = mixF how A B (f i)) : ∀ fu i (M : gMem) (R : List P2), i ≤ c → c - i < fu → RB M a A → RB M b B → MSt M i c R f → pruns (mixF how A B) R (tAt f c i) → ∃ M' R', mX8_makeSpans_31 fu M (nI how) (nI a) (nI b) (nI R.length) (nI i) = some M' ∧ SPR M' R' ∧ pruns (mixF how A B) R' 4294967296 ∧ RK M M' := by
  intro fu
  induction fu with
  | zero => intro i M R _ h; omega
  | succ fu ih =>
    intro i M R hi hf hA hB hS hp
    obtain ⟨s1, s2, s3, s4⟩ := id hS
    rw [mX8_makeSpans_31, s1]
    by_cases z : i < c
    · have fx := hlt i z
      have g288 : ∀ x, mixF how A B x ≤ 288 := fun x => mixG_le (leads_le wA x) (leads_le wB x)
      rw [if_neg (nI_ge z (by omega)), ckI (by omega) (by omega), nI_cl (by omega), s4 i (Nat.le_refl _) z, r_leads4 ha hb hA hB wA wB hh fx, Option.bind_some]
      have ht : tAt f c i = f i := by unfold tAt; rw [if_pos z]
      rw [ht] at hp
      have hlt2 : f i < tAt f c (i + 1) := by
        unfold tAt
        split
        · exact hinc i (i + 1) (by omega) (by omega)
        · exact fx
      have next := pruns_ext hp hlt2 (hF i z)
      have g := g288 (f i)
      have push : ¬ (0 < R.length ∧ (ck2 R (R.length - 1)).2 = mixF how A B (f i)) → ∃ M' R', mX8_makeSpans_78 (mX8_makeSpans_31 fu) M (nI how) (nI a) (nI b) (nI R.length) (nI i) (nI (mixF how A B (f i))) = some M' ∧ SPR M' R' ∧ pruns (mixF how A B) R' 4294967296 ∧ RK M M' := by
        intro hcn
        have hx : extR R (f i) (mixF how A B (f i)) = R ++ [(f i, mixF how A B (f i))] := by unfold extR; rw [if_neg hcn]
        rw [hx] at next
        have len : (R ++ [(f i, mixF how A B (f i))]).length = R.length + 1 := by rw [List.length_append]; rfl
        rw [mX8_makeSpans_78, ckI (by omega) (by omega), ckI (by omega) (by omega), nI_cl (by omega), nI_cl (by omega), s4 i (Nat.le_refl _) z, nmd, ckI (by omega) (by omega), nmd, nmd, nmd, nI_1, nI_1]
        have rk : RK M (sI (sJ M 5 R.length (lN (f i))) 6 R.length (nI (mixF how A B (f i)))) := (sJ_RK (by omega) (by omega)).tr (sI_RK (by omega) (by omega))
        obtain ⟨M', R', e, q1, q2, q3⟩ := ih (i + 1) (sI (sJ M 5 R.length (lN (f i))) 6 R.length (nI (mixF how A B (f i)))) (R ++ [(f i, mixF how A B (f i))]) (by omega) (by omega) (hA.rk rk) (hB.rk rk) ⟨by rw [sI1, if_neg (by omega), sJ1]; exact s1, by rw [len]; omega, fun k hk => by
            rw [len] at hk
            rw [sI2, sJ2, sI1, sJ1, ck2_app k (by omega)]
            by_cases k1 : k < R.length
            · rw [if_neg (show ¬ (5 = 5 ∧ k = R.length) by omega), if_neg (show ¬ (6 = 6 ∧ k = R.length) by omega), if_pos k1]
              exact s3 k k1
            · rw [if_pos (show 5 = 5 ∧ k = R.length by omega), if_pos (show 6 = 6 ∧ k = R.length by omega), if_neg k1]
              exact ⟨rfl, rfl⟩, fun k k1 k2 => by
            rw [sI2, sJ2, if_neg (by omega)]
            exact s4 k (by omega) k2⟩ next
        rw [len] at e
        exact ⟨M', R', e, q1, q2, rk.tr q3⟩
      by_cases zr : R.length = 0
      · rw [if_pos (by rw [zr]; decide)]
        exact push (by omega)
      · have l1 := s3 (R.length - 1) (by omega)
        have gl : (ck2 R (R.length - 1)).2 ≤ 288 := by
          have := hp.2.2.2.2 (R.length - 1) (by omega) (ck2 R (R.length - 1)).1 (Nat.le_refl _) (by
            unfold rend
            rw [if_neg (by omega)]
            exact hp.2.2.2.1 _ (by omega))
          rw [← this]
          exact g288 _
        rw [if_neg (nI_nle (by omega) (by omega)), show nI R.length - (1 : Int32) = nI (R.length - 1) from pk_sub (b := 1) (by omega), ckI (by omega) (by omega), nI_cl (by omega), l1.2]
        by_cases e : (ck2 R (R.length - 1)).2 = mixF how A B (f i)
        · rw [if_pos (by rw [e]), nmd, nI_1]
          have hx : extR R (f i) (mixF how A B (f i)) = R := by unfold extR; rw [if_pos ⟨by omega, e⟩]
          rw [hx] at next
          exact ih (i + 1) M R (by omega) (by omega) hA hB ⟨s1, by omega, s3, fun k k1 k2 => s4 k (by omega) k2⟩ next
        · rw [if_neg (fun q => e ((nI_inj (by omega) (by omega)).mp q))]
          exact push (fun q => e q.2)
    · have e : i = c := by omega
      subst e
      rw [if_pos (nI_le (Nat.le_refl _) (by omega)), nmd]
      have ht : tAt f i i = 4294967296 := by unfold tAt; rw [if_neg (by omega)]
      rw [ht] at hp
      refine ⟨_, R, rfl, ⟨by omega, by rw [sI1, if_pos ⟨rfl, rfl⟩], fun k hk => ?_⟩, hp, sI0_RK (by omega)⟩
      rw [sI2, sI1, if_neg (by omega)]
      exact s3 k hk
theorem r_makeSpans {M : gMem} {a b how : Nat} {A B : List L3} (ha : a < 6) (hb : b < 6) (hA : RB M a A) (hB : RB M b B) (wA : wfB A) (wB : wfB B) (hh : how ≤ 4) : ∃ M' R, mX8_makeSpans M (nI how) (nI a) (nI b) = some M' ∧ SPR M' R ∧ pruns (mixF how A B) R 4294967296 ∧ RK M M' := by
  have hfu := FU_big
  rw [mX8_makeSpans, nmd]
  have k0 : RK M (sI M 0 4 0) := sI0_RK (by omega)
  have c0 : CT (sI M 0 4 0) 0 (fun _ => 0) := ⟨by rw [sI1, if_pos ⟨rfl, rfl⟩]; rfl, fun i hi => by omega, fun i j _ h => by omega, fun i h => by omega⟩
  obtain ⟨M1, n1, f1, e1, c1, l1, r1, m1⟩ := r_cuts c0 (by omega) (x := 0) (by omega)
  rw [show (0 : Int64) = lN 0 from rfl, e1, Option.bind_some]
  have hA1 := hA.rk (k0.tr r1)
  obtain ⟨M2, n2, f2, e2, c2, l2, r2, m2⟩ := r_cutsOf ha wA hA1 c1 (by omega)
  rw [e2, Option.bind_some]
  -- the last stretch, over any cuts that have 0, A's and (where B counts) B's
  have fin : ∀ (M3 : gMem) (n3 : Nat) (f3 : Nat → Nat), RK M M3 → CT M3 n3 f3 → n3 ≤ 300 → (∃ k, k < n3 ∧ f3 k = 0) → (∀ y, isCut A A.length y → ∃ k, k < n3 ∧ f3 k = y) → (how ≠ 3 → ∀ y, isCut B B.length y → ∃ k, k < n3 ∧ f3 k = y) → ∃ M' R, mX8_makeSpans_31 FU M3 (nI how) (nI a) (nI b) 0 0 = some M' ∧ SPR M' R ∧ pruns (mixF how A B) R 4294967296 ∧ RK M M' := by
    intro M3 n3 f3 r3 c3 l3 z0 zA zB
    obtain ⟨k0, k1, k2⟩ := z0
    have f0 : f3 0 = 0 := by
      by_cases e : k0 = 0
      · rw [e] at k2; exact k2
      · have := c3.2.2.1 0 k0 (by omega) k1; omega
    have gap : ∀ i, i < n3 → ∀ x y, f3 i ≤ x → x < tAt f3 n3 (i + 1) → (∃ k, k < n3 ∧ f3 k = y) → ¬ (f3 i < y ∧ y ≤ x) := by
      rintro i hi x y x1 x2 ⟨k, h1, h2⟩ ⟨y1, y2⟩
      rw [← h2] at y1 y2
      have ik : i < k := by
        rcases Nat.lt_trichotomy i k with q | q | q
        · exact q
        · rw [q] at y1; omega
        · have := c3.2.2.1 k i q hi; omega
      unfold tAt at x2
      by_cases z : i + 1 < n3
      · rw [if_pos z] at x2
        by_cases e : k = i + 1
        · rw [e] at y2; omega
        · have := c3.2.2.1 (i + 1) k (by omega) h1; omega
      · omega
    have tle : ∀ i, tAt f3 n3 i ≤ 4294967296 := by
      intro i
      unfold tAt
      split
      · rename_i q; have := c3.2.2.2 i q; omega
      · omega
    have hF : ∀ i, i < n3 → ∀ x, f3 i ≤ x → x < tAt f3 n3 (i + 1) → mixF how A B x = mixF how A B (f3 i) := by
      intro i hi x x1 x2
      have t := tle (i + 1)
      have eA : leads A x = leads A (f3 i) := lead_const wA x1 (fun y hy => gap i hi x y x1 x2 (zA y hy)) (by omega)
      unfold mixF
      by_cases q : how = 3
      · subst q; unfold mixG; rw [if_pos rfl, if_pos rfl, eA]
      · have eB : leads B x = leads B (f3 i) := lead_const wB x1 (fun y hy => gap i hi x y x1 x2 (zB q y hy)) (by omega)
        rw [eA, eB]
    obtain ⟨M', R, e, q1, q2, q3⟩ := r_mk_loop ha hb wA wB hh l3 c3.2.2.1 c3.2.2.2 hF FU 0 M3 [] (by omega) (by omega) (hA.rk r3) (hB.rk r3) ⟨c3.1, Nat.le_refl _, fun k hk => absurd hk (Nat.not_lt_zero k), fun k _ k2 => c3.2.1 k k2⟩ (by
      have : tAt f3 n3 0 = 0 := by unfold tAt; rw [if_pos (by omega), f0]
      rw [this]
      exact pruns_nil _)
    exact ⟨M', R, e, q1, q2, r3.tr q3⟩
  have has0 : ∃ k, k < n2 ∧ f2 k = 0 := (m2 0).mpr (Or.inl ((m1 0).mpr (Or.inr ⟨rfl, by omega⟩)))
  have hasA : ∀ y, isCut A A.length y → ∃ k, k < n2 ∧ f2 k = y := fun y hy => (m2 y).mpr (Or.inr hy)
  by_cases q : how = 3
  · rw [if_pos (by rw [q]; rfl)]
    exact fin M2 n2 f2 ((k0.tr r1).tr r2) c2 (by omega) has0 hasA (fun z => absurd q z)
  · rw [if_neg (show ¬ nI how = 3 from fun z => q ((nI_inj (b := 3) (by omega) (by omega)).mp z))]
    have hB2 := hB.rk ((k0.tr r1).tr r2)
    obtain ⟨M3, n3, f3, e3, c3, l3, r3, m3⟩ := r_cutsOf hb wB hB2 c2 (by omega)
    rw [e3, Option.bind_some]
    exact fin M3 n3 f3 (((k0.tr r1).tr r2).tr r3) c3 (by omega) ((m3 0).mpr (Or.inl has0)) (fun y hy => (m3 y).mpr (Or.inl (hasA y hy))) (fun _ y hy => (m3 y).mpr (Or.inr hy))
theorem mixF3 (A B : List L3) : mixF 3 A B = leads A := rfl
/-- nothing of the BOOKS, the COVER and the WAY has changed -/
theorem Inv.keep {MC MR MC' MR' : gMem} (h : Inv MC MR) {l n : Nat} (hl : 34 ≤ l) (hn : l + n ≤ 50) (o : Off l n MC MC') (r : RK MR MR') : Inv MC' MR' := by
  obtain ⟨bks, hb, ⟨B1, h26⟩, ⟨B2, h30⟩, hc⟩ := h
  exact ⟨bks, ⟨fun b h6 => (hb.1 b h6).off o (by omega), fun b h6 => (hb.2.1 b h6).rk r, hb.2.2⟩, ⟨B1, h26.off o (by omega)⟩, ⟨B2, h30.off o (by omega)⟩, hc.keep (o.sc (by omega)) r.2⟩
theorem runs_le {B : List L3} (hw : wfB B) {R : List P2} {t : Nat} (hp : pruns (leads B) R t) {i : Nat} (hi : i < R.length) : (ck2 R i).2 ≤ 16 := by
  have := hp.2.2.2.2 i hi (ck2 R i).1 (Nat.le_refl _) (by
    unfold rend
    by_cases z : i + 1 < R.length
    · rw [if_pos z]; exact (hp.2.2.1 i z).1
    · rw [if_neg z]; exact hp.2.2.2.1 i hi)
  rw [← this]
  exact leads_le hw _
/-- both sides measure one BOOK: the same list -/
theorem both_spans {MC MR : gMem} (h : Inv MC MR) {b : Nat} (h6 : b < 6) : ∃ MC' MR' R, mX3_measure MC 41 (2 + 4 * b) = some MC' ∧ mX8_makeSpans MR 3 (nI b) (nI b) = some MR' ∧ SPN MC' 41 R 4294967296 ∧ SPR MR' R ∧ Inv MC' MR' ∧ (∀ i, i < R.length → (ck2 R i).1 < 4294967296 ∧ (ck2 R i).2 ≤ 16) ∧ (∀ i, i + 1 < R.length → (ck2 R i).1 < (ck2 R (i + 1)).1) := by
  obtain ⟨bks, hb, h26, h30, hc⟩ := id h
  have hlen := (hb.2.1 b h6).1
  obtain ⟨MC', R, e1, s1, p1, o1⟩ := m_measure (s := 41) (by omega) (hb.1 b h6) (hb.2.2 b h6) hlen
  obtain ⟨MR', R2, e2, s2, p2, o2⟩ := r_makeSpans (how := 3) h6 h6 (hb.2.1 b h6) (hb.2.1 b h6) (hb.2.2 b h6) (hb.2.2 b h6) (by omega)
  rw [mixF3] at p2
  have e := pruns_uniq p1 p2
  subst e
  exact ⟨MC', MR', R, e1, e2, s1, s2, Inv.keep h (by omega) (by omega) o1 o2, fun i hi => ⟨p1.2.2.2.1 i hi, runs_le (hb.2.2 b h6) p1 hi⟩, fun i hi => (p1.2.2.1 i hi).1⟩
