/-! same, differ -/
def stA (R : List P2) (i : Nat) : Nat := if i < R.length then (ck2 R i).1 else 4294967296
theorem stA_succ {R : List P2} {i : Nat} : stA R (i + 1) = rend R 4294967296 i := rfl
def PD (A B : List L3) (x : Nat) : Bool := decide (leads A x ≠ leads B x)
theorem r_differ_loop {M : gMem} {A B : List L3} {R : List P2} (wA : wfB A) (wB : wfB B) (h : SPR M R) (hp : pruns (mixF 4 A B) R 4294967296) (x3 : Int32) : ∀ f i, i ≤ R.length → R.length - i < f → mX8_differ_45 f M x3 (oL (dfst (PD A B) (stA R i))) (lN (dcnt (PD A B) (stA R i))) (nI i) = some (if x3 = 0 then oL (dfst (PD A B) 4294967296) else lN (dcnt (PD A B) 4294967296), M) := by
  have h1 := h.1
  intro f
  induction f with
  | zero => intro i _ h; omega
  | succ f ih =>
    intro i hi hf
    rw [mX8_differ_45, h.2.1]
    by_cases z : i < R.length
    · have nx := ih (i + 1) (by omega) (by omega)
      rw [stA_succ] at nx
      have r := rend_gt hp z
      have st : stA R i = (ck2 R i).1 := by unfold stA; rw [if_pos z]
      rw [st]
      have val : ∀ x, (ck2 R i).1 ≤ x → x < rend R 4294967296 i → leads A x = (ck2 R i).2 / 17 ∧ leads B x = (ck2 R i).2 % 17 := by
        intro x x1 x2
        have q := hp.2.2.2.2 i z x x1 x2
        have a := leads_le wA x
        have b := leads_le wB x
        have q : 17 * leads A x + leads B x = (ck2 R i).2 := q
        omega
      have gle : (ck2 R i).2 ≤ 288 := by
        have q := hp.2.2.2.2 i z _ (Nat.le_refl _) r.1
        rw [← q]
        exact mixG_le (leads_le wA _) (leads_le wB _)
      have hfl : ∀ y, dfst (PD A B) (ck2 R i).1 = some y → y < (ck2 R i).1 := fun y q => dfst_lt q
      rw [if_neg (nI_ge z (by omega)), ckI (by omega) (by omega), ck_t (show nz (17 : Int32) = true from rfl), ckI (by omega) (by omega), ck_t (show nz (17 : Int32) = true from rfl), nI_cl (by omega), (h.2.2 i z).2, show (17 : Int32) = nI 17 from rfl, pk_rem (by omega) (by omega) (by omega), pk_div (by omega) (by omega) (by omega)]
      by_cases c : (ck2 R i).2 / 17 = (ck2 R i).2 % 17
      · have run := dcnt_run (P := PD A B) (v := false) (t := (ck2 R i).1) (rend R 4294967296 i) (by omega) (fun x x1 x2 => by
          have := val x x1 x2
          unfold PD
          exact decide_eq_false (fun q => q (by rw [this.1, this.2, c])))
        rw [if_pos (by rw [c]), nmd, nI_1]
        rw [run.1, run.2] at nx
        cases q : dfst (PD A B) (ck2 R i).1 with
        | some y => rw [q] at nx; exact nx
        | none => rw [q] at nx; exact nx
      · have run := dcnt_run (P := PD A B) (v := true) (t := (ck2 R i).1) (rend R 4294967296 i) (by omega) (fun x x1 x2 => by
          have := val x x1 x2
          unfold PD
          exact decide_eq_true (fun q => c (by rw [← this.1, ← this.2, q])))
        rw [if_neg (fun q => c ((nI_inj (by omega) (by omega)).mp q))]
        rw [run.1, run.2, if_pos rfl] at nx
        have tail : ∀ v : Int64, mX8_differ_101 (mX8_differ_45 f) M x3 (lN (dcnt (PD A B) (ck2 R i).1)) (nI i) v = mX8_differ_45 f M x3 v (lN (dcnt (PD A B) (ck2 R i).1 + (rend R 4294967296 i - (ck2 R i).1))) (nI (i + 1)) := by
          intro v
          rw [mX8_differ_101, r_end h z, Option.bind_some, ckI (by omega) (by omega), nI_cl (by omega), (h.2.2 i z).1, nmd, nmd, nI_1, lN_sub (by omega), lN_add]
        cases q : dfst (PD A B) (ck2 R i).1 with
        | some y =>
          have hy := hfl y q
          rw [q] at nx
          rw [oL, if_neg (lN_ne_m1 (by omega)), tail]
          exact nx
        | none =>
          rw [q] at nx
          have nx : mX8_differ_45 f M x3 (oL (if true = true ∧ (ck2 R i).1 < rend R 4294967296 i then some (ck2 R i).1 else none)) _ _ = _ := nx
          rw [if_pos ⟨rfl, r.1⟩] at nx
          rw [oL, if_pos rfl, ckI (by omega) (by omega), (h.2.2 i z).1, tail]
          exact nx
    · have st : stA R i = 4294967296 := by unfold stA; rw [if_neg z]
      rw [if_pos (nI_le (by omega) (by omega)), st]
      by_cases c : x3 = 0
      · rw [if_pos c, if_pos c]
      · rw [if_neg c, if_neg c]
theorem m_diff_119 {FA FB : Nat → Nat} {M : gMem} {RA RB : List P2} (hA : SPN M 41 RA 4294967296) (hB : SPN M 45 RB 4294967296) (pA : pruns FA RA 4294967296) (pB : pruns FB RB 4294967296) {i j u e : Nat} (hi : i < RA.length) (hj : j < RB.length) (he : 0 < e) (he2 : e ≤ 4294967296) (k : gMem → Nat → Nat → Int64 → Int32 → Int32 → Int32 → Option gMem) : mX1_measure_119 k M 41 45 (nI i) (nI j) (nI u) (lN (e - 1)) = k M 41 45 (lN e) (nI (if rend RA 4294967296 i = e then i + 1 else i)) (nI (if rend RB 4294967296 j = e then j + 1 else j)) (nI (u + 1)) := by
  have ga := rend_gt pA hi
  have gb := rend_gt pB hj
  rw [mX1_measure_119, nmd, m_slast hA pA hi, Option.bind_some, lN_1, show e - 1 + 1 = e by omega]
  have step : ∀ f1 : Bool, mX1_measure_141 k M 41 45 (lN e) (nI i) (nI j) (nI u) (lN (e - 1)) (bz f1) = k M 41 45 (lN e) (nI (if f1 = true then i + 1 else i)) (nI (if rend RB 4294967296 j = e then j + 1 else j)) (nI (u + 1)) := by
    intro f1
    rw [mX1_measure_141, m_slast hB pB hj, Option.bind_some]
    have fin : ∀ f2 : Bool, mX1_measure_174 k M 41 45 (lN e) (nI j) (nI u) (bz f2) (bz f1) (nI i) = k M 41 45 (lN e) (nI (if f1 = true then i + 1 else i)) (nI (if f2 = true then j + 1 else j)) (nI (u + 1)) := by
      intro f2
      rw [mX1_measure_174, nmd]
      have a : nI i + bz f1 = nI (if f1 = true then i + 1 else i) := by
        cases f1 with
        | true => exact nI_1 i
        | false => show nI i + nI 0 = nI i; rw [nI_add]; rfl
      rw [a]
      cases f2 with
      | true => rw [if_neg (show ¬ bz true = 0 from one_ne), nmd, nmd, nI_1, nI_1]; rfl
      | false => rw [if_pos (show bz false = 0 from rfl), nmd, nmd, nI_1, show nI j + (0 : Int32) = nI j from by show nI j + nI 0 = nI j; rw [nI_add]; rfl]; rfl
    by_cases c : rend RB 4294967296 j = e
    · rw [if_pos (by rw [c]), if_pos c]
      have := fin true
      cases f1 with
      | true => rw [if_neg (show ¬ bz true = 0 from one_ne)]; exact this
      | false => rw [if_pos (show bz false = 0 from rfl)]; exact this
    · rw [if_neg (fun q => c (by have := (lN_inj (by omega) (by omega)).mp q; omega)), if_neg c]
      have := fin false
      cases f1 with
      | true => rw [if_neg (show ¬ bz true = 0 from one_ne)]; exact this
      | false => rw [if_pos (show bz false = 0 from rfl)]; exact this
  by_cases c : rend RA 4294967296 i = e
  · rw [if_pos (by rw [c]), if_pos c]; exact step true
  · rw [if_neg (fun q => c (by have := (lN_inj (by omega) (by omega)).mp q; omega)), if_neg c]; exact step false
theorem SPN.keep {M M' : gMem} {s t : Nat} {R : List P2} (h : SPN M s R t) (e : ∀ c, c < 4 → M'.1 (s + c) = M.1 (s + c) ∧ M'.2 (s + c) = M.2 (s + c)) : SPN M' s R t := by
  have e0 := e 0 (by omega)
  rw [Nat.add_zero] at e0
  refine ⟨h.1, h.2.1, by rw [e0.1]; exact h.2.2.1, by rw [e0.2]; exact h.2.2.2.1, fun i hi => ?_⟩
  rw [(e 1 (by omega)).2, (e 2 (by omega)).1]
  exact h.2.2.2.2 i hi
theorem m_diff_loop {A B : List L3} {RA RB : List P2} (wA : wfB A) (wB : wfB B) (pA : pruns (leads A) RA 4294967296) (pB : pruns (leads B) RB 4294967296) : ∀ f i j u t (M : gMem), i ≤ RA.length → j ≤ RB.length → RA.length - i + (RB.length - j) < f → u ≤ i + j → t ≤ 4294967296 → SPN M 41 RA 4294967296 → SPN M 45 RB 4294967296 → M.2 49 0 = oL (dfst (PD A B) t) → M.2 49 1 = lN (dcnt (PD A B) t) → stA RA i ≤ t → stA RB j ≤ t → (i < RA.length → t < rend RA 4294967296 i) → (j < RB.length → t < rend RB 4294967296 j) → ∃ M', mX1_measure_23 f M 41 45 (lN t) (nI i) (nI j) (nI u) = some M' ∧ M'.2 49 0 = oL (dfst (PD A B) 4294967296) ∧ M'.2 49 1 = lN (dcnt (PD A B) 4294967296) ∧ Off 49 1 M M' := by
  intro f
  induction f with
  | zero => intro i j u t M _ _ h; omega
  | succ f ih =>
    intro i j u t M hi hj hf hu ht hA hB h0 h1 sa sb ea eb
    have l1 := hA.1
    have l2 := hB.1
    rw [mX1_measure_23]
    by_cases zi : i < RA.length
    · by_cases zj : j < RB.length
      · have ea := ea zi
        have eb := eb zj
        have ra := rend_gt pA zi
        have rb := rend_gt pB zj
        have sa' : (ck2 RA i).1 ≤ t := by unfold stA at sa; rw [if_pos zi] at sa; exact sa
        have sb' : (ck2 RB j).1 ≤ t := by unfold stA at sb; rw [if_pos zj] at sb; exact sb
        have ga := runs_le wA pA zi
        have gb := runs_le wB pB zj
        have hmin : (if lN (rend RB 4294967296 j - 1) < lN (rend RA 4294967296 i - 1) then lN (rend RB 4294967296 j - 1) else lN (rend RA 4294967296 i - 1)) = lN (min (rend RA 4294967296 i) (rend RB 4294967296 j) - 1) := by
          by_cases c : rend RB 4294967296 j < rend RA 4294967296 i
          · rw [if_pos ((lN_lt' (by omega) (by omega)).mpr (by omega)), Nat.min_eq_right (by omega)]
          · rw [if_neg (fun q => c (by have := (lN_lt' (by omega) (by omega)).mp q; omega)), Nat.min_eq_left (by omega)]
        rw [if_neg (show ¬ (258 : Int32) ≤ nI u from nI_ge (b := 258) (by omega) (by omega)), hA.2.2.1, hB.2.2.1, if_neg (nI_ge zi (by omega)), if_neg (nI_ge zj (by omega)), m_slast hA pA zi, Option.bind_some, m_slast hB pB zj, Option.bind_some, hmin, nmd, ckI (by omega) (by omega), ckI (by omega) (by omega), nI_cl (by omega), nI_cl (by omega), (hA.2.2.2.2 i zi).2, (hB.2.2.2.2 j zj).2]
        have e1 : t < min (rend RA 4294967296 i) (rend RB 4294967296 j) := by omega
        generalize hee : min (rend RA 4294967296 i) (rend RB 4294967296 j) = ee at *
        have e2 : ee ≤ rend RA 4294967296 i ∧ ee ≤ rend RB 4294967296 j ∧ (ee = rend RA 4294967296 i ∨ ee = rend RB 4294967296 j) := by omega
        have val : ∀ x, t ≤ x → x < ee → leads A x = (ck2 RA i).2 ∧ leads B x = (ck2 RB j).2 := fun x x1 x2 => ⟨pA.2.2.2.2 i zi x (by omega) (by omega), pB.2.2.2.2 j zj x (by omega) (by omega)⟩
        -- the next round, from any memory that holds what is due at ee
        have nx : ∀ M2 : gMem, SPN M2 41 RA 4294967296 → SPN M2 45 RB 4294967296 → M2.2 49 0 = oL (dfst (PD A B) ee) → M2.2 49 1 = lN (dcnt (PD A B) ee) → ∃ M', mX1_measure_119 (mX1_measure_23 f) M2 41 45 (nI i) (nI j) (nI u) (lN (ee - 1)) = some M' ∧ M'.2 49 0 = oL (dfst (PD A B) 4294967296) ∧ M'.2 49 1 = lN (dcnt (PD A B) 4294967296) ∧ Off 49 1 M2 M' := by
          intro M2 a2 b2 c2 d2
          rw [m_diff_119 a2 b2 pA pB zi zj (by omega) (by omega)]
          have za : ∀ k, rend RA 4294967296 k = stA RA (k + 1) := fun k => rfl
          have zb : ∀ k, rend RB 4294967296 k = stA RB (k + 1) := fun k => rfl
          refine ih _ _ (u + 1) ee M2 ?_ ?_ ?_ ?_ (by omega) a2 b2 c2 d2 ?_ ?_ ?_ ?_
          · split <;> omega
          · split <;> omega
          · split <;> split <;> omega
          · split <;> split <;> omega
          · split
            · rename_i q; rw [← za, q]; exact Nat.le_refl _
            · omega
          · split
            · rename_i q; rw [← zb, q]; exact Nat.le_refl _
            · omega
          · split
            · intro k
              rename_i q
              have := rend_gt pA k
              have q2 : rend RA 4294967296 i = (ck2 RA (i + 1)).1 := by unfold rend; rw [if_pos k]
              omega
            · intro _; omega
          · split
            · intro k
              rename_i q
              have := rend_gt pB k
              have q2 : rend RB 4294967296 j = (ck2 RB (j + 1)).1 := by unfold rend; rw [if_pos k]
              omega
            · intro _; omega
        by_cases c : (ck2 RA i).2 = (ck2 RB j).2
        · have run := dcnt_run (P := PD A B) (v := false) (t := t) ee (by omega) (fun x x1 x2 => by
            have := val x x1 x2
            unfold PD
            exact decide_eq_false (fun q => q (by rw [this.1, this.2, c])))
          rw [if_pos (by rw [c])]
          refine nx M hA hB ?_ ?_
          · rw [h0, run.2]
            cases q : dfst (PD A B) t with
            | some y => rfl
            | none => rfl
          · rw [h1, run.1]; rfl
        · have run := dcnt_run (P := PD A B) (v := true) (t := t) ee (by omega) (fun x x1 x2 => by
            have := val x x1 x2
            unfold PD
            exact decide_eq_true (fun q => c (by rw [← this.1, ← this.2, q])))
          rw [if_neg (fun q => c ((nI_inj (by omega) (by omega)).mp q)), h1]
          have dl := dcnt_le (PD A B) t
          have go : ∀ v : Int64, v = oL (dfst (PD A B) ee) → ∃ M', mX1_measure_101 (mX1_measure_23 f) M 41 45 (lN t) (nI i) (nI j) (nI u) (lN (ee - 1)) v = some M' ∧ M'.2 49 0 = oL (dfst (PD A B) 4294967296) ∧ M'.2 49 1 = lN (dcnt (PD A B) 4294967296) ∧ Off 49 1 M M' := by
            intro v hv
            rw [mX1_measure_101, nmd, nmd]
            have e3 : (sJ M 49 0 v).2 49 1 = lN (dcnt (PD A B) t) := by rw [sJ2, if_neg (by omega), h1]
            rw [e3, lN_sub (by omega), lN_1, lN_add, show dcnt (PD A B) t + (ee - 1 - t + 1) = dcnt (PD A B) t + (ee - t) by omega]
            have oo : Off 49 1 M (sJ (sJ M 49 0 v) 49 1 (lN (dcnt (PD A B) t + (ee - t)))) := (sJ_Off (by omega)).tr (sJ_Off (by omega))
            obtain ⟨M', f1, f2, f3, f4⟩ := nx (sJ (sJ M 49 0 v) 49 1 (lN (dcnt (PD A B) t + (ee - t)))) (hA.keep (fun c hc => oo _ (by omega))) (hB.keep (fun c hc => oo _ (by omega))) (by rw [sJ2, if_neg (by omega), sJ2, if_pos ⟨rfl, rfl⟩, hv]) (by rw [sJ2, if_pos ⟨rfl, rfl⟩, run.1, if_pos rfl])
            exact ⟨M', f1, f2, f3, oo.tr f4⟩
          by_cases d : dcnt (PD A B) t = 0
          · rw [if_pos (by rw [d]; rfl)]
            refine go _ ?_
            rw [run.2, dfst_none.mpr d]
            show lN t = oL (if true = true ∧ t < ee then some t else none)
            rw [if_pos ⟨rfl, e1⟩]; rfl
          · rw [if_neg (show ¬ lN (dcnt (PD A B) t) = 0 from fun q => d ((lN_inj (b := 0) (by omega) (by omega)).mp q)), h0]
            refine go _ ?_
            rw [run.2]
            cases q : dfst (PD A B) t with
            | some y => rfl
            | none => exact absurd (dfst_none.mp q) d
      · have : t = 4294967296 := by unfold stA at sb; rw [if_neg zj] at sb; omega
        subst this
        have := ea zi
        have := rend_gt pA zi
        omega
    · have : t = 4294967296 := by unfold stA at sa; rw [if_neg zi] at sa; omega
      subst this
      rw [hA.2.2.1, if_pos (nI_le (by omega) (by omega))]
      by_cases q : (258 : Int32) ≤ nI u
      · rw [if_pos q]; exact ⟨M, rfl, h0, h1, Off.rf⟩
      · rw [if_neg q]; exact ⟨M, rfl, h0, h1, Off.rf⟩
theorem Off.mono {l n l2 n2 : Nat} {M M' : gMem} (h : Off l n M M') (h1 : l2 ≤ l) (h2 : l + n ≤ l2 + n2) : Off l2 n2 M M' := fun k hk => h k (by omega)
/-- both sides: the least ADDRESS where two BOOKS differ, and how many -/
theorem both_differ {MC MR : gMem} (h : Inv MC MR) {a b : Nat} (ha : a < 6) (hb6 : b < 6) : ∃ (MC' MR' : gMem) (o : Option Nat) (c : Nat), mX7_measureDifference MC (nI a) (nI b) = some MC' ∧ MC'.2 49 0 = oL o ∧ MC'.2 49 1 = lN c ∧ mX8_makeSpans MR 4 (nI a) (nI b) = some MR' ∧ (∀ x3, mX8_differ_45 FU MR' x3 (-1) 0 0 = some (if x3 = 0 then oL o else lN c, MR')) ∧ Inv MC' MR' := by
  have hfu := FU_big
  obtain ⟨bks, hb, h26, h30, hc⟩ := id h
  have hlA := (hb.2.1 a ha).1
  have hlB := (hb.2.1 b hb6).1
  obtain ⟨M1, RA, e1, s1, p1, o1⟩ := m_measure (s := 41) (by omega) (hb.1 a ha) (hb.2.2 a ha) hlA
  have hLB := (hb.1 b hb6).off o1 (by omega)
  obtain ⟨M2, RB, e2, s2, p2, o2⟩ := m_measure (s := 45) (by omega) hLB (hb.2.2 b hb6) hlB
  have s1' : SPN M2 41 RA 4294967296 := s1.keep (fun c hc => o2 _ (by omega))
  obtain ⟨MR', R, e3, s3, p3, o3⟩ := r_makeSpans (how := 4) ha hb6 (hb.2.1 a ha) (hb.2.1 b hb6) (hb.2.2 a ha) (hb.2.2 b hb6) (by omega)
  have oo : Off 49 1 M2 (sJ (sJ M2 49 0 (-1)) 49 1 0) := (sJ_Off (by omega)).tr (sJ_Off (by omega))
  have z0 : ∀ {F : Nat → Nat} {R : List P2}, pruns F R 4294967296 → stA R 0 = 0 ∧ 0 < R.length := by
    intro F R hp
    have : 0 < R.length := by have := hp.1; omega
    unfold stA
    rw [if_pos this]
    exact ⟨hp.2.1 this, this⟩
  have l1 := s1.1
  have l2 := s2.1
  have l3 := s3.1
  obtain ⟨M', f1, f2, f3, f4⟩ := m_diff_loop (hb.2.2 a ha) (hb.2.2 b hb6) p1 p2 FU 0 0 0 0 (sJ (sJ M2 49 0 (-1)) 49 1 0) (by omega) (by omega) (by omega) (by omega) (by omega) (s1'.keep (fun c hc => oo _ (by omega))) (s2.keep (fun c hc => oo _ (by omega))) (by rw [sJ2, if_neg (by omega), sJ2, if_pos ⟨rfl, rfl⟩]; rfl) (by rw [sJ2, if_pos ⟨rfl, rfl⟩]; rfl) (by rw [(z0 p1).1]; exact Nat.le_refl _) (by rw [(z0 p2).1]; exact Nat.le_refl _) (fun q => by have := (rend_gt p1 q).1; omega) (fun q => by have := (rend_gt p2 q).1; omega)
  refine ⟨M', MR', _, _, ?_, f2, f3, e3, fun x3 => ?_, Inv.keep h (l := 41) (n := 9) (by omega) (by omega) ?_ o3⟩
  · rw [mX7_measureDifference, ckI (n := 6) ha (by omega), nI_cl (by omega), e1, Option.bind_some, ckI (n := 6) hb6 (by omega), nI_cl (by omega), e2, Option.bind_some, mX1_measure, nmd, nmd]
    have f1' : mX1_measure_23 FU (sJ (sJ M2 49 0 (-1)) 49 1 0) 41 45 0 0 0 0 = some M' := f1
    rw [f1', Option.bind_some]
  · have q := r_differ_loop (hb.2.2 a ha) (hb.2.2 b hb6) s3 p3 x3 FU 0 (by omega) (by omega)
    rw [(z0 p3).1] at q
    exact q
  · exact ((o1.mono (by omega) (by omega)).tr (o2.mono (by omega) (by omega))).tr ((oo.tr f4).mono (by omega) (by omega))
theorem op_differ {MC MR : gMem} (h : Inv MC MR) (x1 x2 x3 : Int32) : ∃ r MC' MR', mX7_differ MC x1 x2 x3 = some (r, MC') ∧ mX8_differ MR x1 x2 x3 = some (r, MR') ∧ Inv MC' MR' := by
  rw [mX7_differ, mX8_differ]
  rcases book_cases x1 with ⟨a, ha, rfl, e1, e2⟩ | ⟨e1, e2⟩
  rotate_left
  · rw [e1, e2, Option.bind_some, Option.bind_some, if_pos rfl, if_pos rfl]; exact ⟨_, _, _, rfl, rfl, h⟩
  rw [e1, e2, Option.bind_some, Option.bind_some, if_neg one_ne, if_neg one_ne]
  rcases book_cases x2 with ⟨b, hb, rfl, e1, e2⟩ | ⟨e1, e2⟩
  rotate_left
  · rw [e1, e2, Option.bind_some, Option.bind_some, if_pos rfl, if_pos rfl]; exact ⟨_, _, _, rfl, rfl, h⟩
  rw [e1, e2, Option.bind_some, Option.bind_some, if_neg one_ne, if_neg one_ne]
  rcases i32_range (x := x3) (n := 1) (by omega) with q | ⟨j, hj, rfl⟩
  · have z : mX8_lies x3 0 1 = some 0 := r_lies_out (n := 1) q
    rw [z, Option.bind_some, if_pos rfl]
    by_cases q0 : x3 < 0
    · rw [if_pos q0]; exact ⟨_, _, _, rfl, rfl, h⟩
    · rw [if_neg q0, if_neg (show ¬ x3 ≤ 1 from fun z => i32_nlt.mpr z (q.resolve_left q0))]; exact ⟨_, _, _, rfl, rfl, h⟩
  · obtain ⟨MC', MR', o, c, f1, f2, f3, f4, f5, iv⟩ := both_differ h ha hb
    have z : mX8_lies (nI j) 0 1 = some 1 := r_lies_in (n := 1) hj (by omega)
    rw [z, Option.bind_some, if_neg one_ne, if_neg (nI_pos (by omega)), if_pos (show nI j ≤ 1 from nI_le (b := 1) hj (by omega)), f1, Option.bind_some, f4, Option.bind_some, f5, f2, f3]
    by_cases q : nI j = 0
    · rw [if_pos q, if_pos q]; exact ⟨_, _, _, rfl, rfl, iv⟩
    · rw [if_neg q, if_neg q]; exact ⟨_, _, _, rfl, rfl, iv⟩
theorem op_same {MC MR : gMem} (h : Inv MC MR) (x1 x2 : Int32) : ∃ r MC' MR', mX7_same MC x1 x2 = some (r, MC') ∧ mX8_same MR x1 x2 = some (r, MR') ∧ Inv MC' MR' := by
  rw [mX7_same, mX8_same]
  rcases book_cases x1 with ⟨a, ha, rfl, e1, e2⟩ | ⟨e1, e2⟩
  rotate_left
  · rw [e1, e2, Option.bind_some, Option.bind_some, if_pos rfl, if_pos rfl]; exact ⟨_, _, _, rfl, rfl, h⟩
  rw [e1, e2, Option.bind_some, Option.bind_some, if_neg one_ne, if_neg one_ne]
  rcases book_cases x2 with ⟨b, hb, rfl, f1, f2⟩ | ⟨f1, f2⟩
  rotate_left
  · rw [f1, f2, Option.bind_some, Option.bind_some, if_pos rfl, if_pos rfl]; exact ⟨_, _, _, rfl, rfl, h⟩
  rw [f1, f2, Option.bind_some, Option.bind_some, if_neg one_ne, if_neg one_ne]
  obtain ⟨MC', MR', o, c, g1, g2, g3, g4, g5, iv⟩ := both_differ h ha hb
  have z : mX8_lies (1 : Int32) 0 1 = some 1 := rfl
  have d : mX8_differ MR (nI a) (nI b) 1 = some (lN c, MR') := by
    rw [mX8_differ, e2, Option.bind_some, if_neg one_ne, f2, Option.bind_some, if_neg one_ne, z, Option.bind_some, if_neg one_ne, g4, Option.bind_some, g5, if_neg one_ne]
  rw [d, g1, Option.bind_some, Option.bind_some, g3]
  by_cases q : lN c = (0 : Int64)
  · rw [if_pos q, if_pos q]; exact ⟨_, _, _, rfl, rfl, iv⟩
  · rw [if_neg q, if_neg q]; exact ⟨_, _, _, rfl, rfl, iv⟩
