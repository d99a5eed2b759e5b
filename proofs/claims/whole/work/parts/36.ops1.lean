/-! drop, copy, count, line, find, longest -/
theorem op_drop {MC MR : gMem} (h : Inv MC MR) (x1 x2 x3 : Int32) : ∃ r MC' MR', mX7_drop MC x1 x2 x3 = some (r, MC') ∧ mX8_drop MR x1 x2 x3 = some (r, MR') ∧ Inv MC' MR' := by
  obtain ⟨bks, hb, h26, h30, hc⟩ := id h
  rw [mX7_drop, mX8_drop]
  rcases book_cases x1 with ⟨b, h6, rfl, e1, e2⟩ | ⟨e1, e2⟩
  rotate_left
  · rw [e1, e2, Option.bind_some, Option.bind_some, if_pos rfl, if_pos rfl, mX8_drop_29, if_pos rfl]; exact ⟨_, _, _, rfl, rfl, h⟩
  rw [e1, e2, Option.bind_some, Option.bind_some, if_neg one_ne, if_neg one_ne, ckI (n := 6) h6 (by omega), nI_cl (by omega)]
  have hL := hb.1 b h6
  have hR := hb.2.1 b h6
  have hw := hb.2.2 b h6
  have hln := lnB h6
  have hlen := hR.1
  rcases beg_cases x2 x3 with ⟨a, n, ha, hn, rfl, rfl, hd, e1, e2⟩ | ⟨e1, e2, hno⟩
  · rw [e2, Option.bind_some, if_neg one_ne, r_number ha, Option.bind_some]
    obtain ⟨p, ep, p1, p2, p3⟩ := m_placeOf hL hw ha hn
    rw [ep, Option.bind_some, m_isAt hL (by omega), Option.bind_some]
    have inj : ∀ k, k < (bks b).length → (lN (bk (bks b) k).1 = lN a ∧ nI (bk (bks b) k).2.1 = nI n → (bk (bks b) k).1 = a ∧ (bk (bks b) k).2.1 = n) := by
      intro k hk q
      have w := hw.1 k hk
      have w1 := w.1
      have w2 := w.2.1
      exact ⟨(lN_inj (by omega) (by omega)).mp q.1, (nI_inj (by omega) (by omega)).mp q.2⟩
    by_cases hat : p < (bks b).length ∧ nI (bk (bks b) p).1 = nI a ∧ nI (bk (bks b) p).2.1 = nI n
    · have w := hw.1 p hat.1
      have w1 := w.1
      have w2 := w.2.1
      have q1 := (nI_inj w1 ha).mp hat.2.1
      have q2 := (nI_inj (by omega) (by omega)).mp hat.2.2
      rw [decide_eq_true hat, if_neg (show ¬ bz true = 0 from one_ne)]
      have hr : mX8_at MR (nI b) (lN a) (nI n) = some (nI p) := by
        rcases r_at h6 hR (lN a) (nI n) with ⟨j, f1, f2, f3⟩ | ⟨f1, f2⟩
        · have z := inj j f2 f3
          by_cases e : j = p
          · rw [f1, e]
          · exfalso
            rcases Nat.lt_or_gt_of_ne e with e | e
            · have := hw.2 j p e hat.1; unfold ltL at this; omega
            · have := hw.2 p j e f2; unfold ltL at this; omega
        · exact absurd ⟨by rw [q1], hat.2.2⟩ (f2 p hat.1)
      obtain ⟨M1, e1, o1, l1⟩ := m_remove hL hat.1
      obtain ⟨M2, e2, o2, l2⟩ := r_drop_at h6 hR hat.1
      rw [hr, Option.bind_some, e1, e2, Option.bind_some]
      exact ⟨_, _, _, rfl, rfl, Inv.book hb h26 h30 hc h6 o1 l1 o2 l2 (del_wf hw hat.1)⟩
    · rw [decide_eq_false hat, if_pos (show bz false = 0 from rfl)]
      have hr : mX8_at MR (nI b) (lN a) (nI n) = some (-1) := by
        rcases r_at h6 hR (lN a) (nI n) with ⟨j, f1, f2, f3⟩ | ⟨f1, f2⟩
        · exfalso
          have q := inj j f2 f3
          by_cases e : j < p
          · have := p2 j e; unfold ltK at this; omega
          · by_cases e2 : j = p
            · subst e2; exact hat ⟨f2, by rw [q.1], by rw [q.2]⟩
            · have z := hw.2 p j (by omega) f2
              have z2 := p3 p (Nat.le_refl _) (by omega)
              unfold ltL at z
              unfold ltK at z2
              omega
        · exact f1
      rw [hr, Option.bind_some, mX8_drop_29, if_pos rfl]
      exact ⟨_, _, _, rfl, rfl, h⟩
  · rw [e2, Option.bind_some, if_pos rfl, mX8_drop_29, if_pos rfl]
    obtain ⟨p, ep, p1⟩ := m_placeOf_any hL x2 x3
    rw [ep, Option.bind_some, m_isAt hL (by omega), Option.bind_some, decide_eq_false, if_pos (show bz false = 0 from rfl)]
    · exact ⟨_, _, _, rfl, rfl, h⟩
    · rintro ⟨z1, z2, z3⟩
      have w := hw.1 p z1
      exact hno ⟨_, _, w.1, w.2.1, z2.symm, z3.symm, w.2.2.2⟩
theorem op_copy {MC MR : gMem} (h : Inv MC MR) (x1 x2 : Int32) : ∃ r MC' MR', mX7_copy MC x1 x2 = some (r, MC') ∧ mX8_copy MR x1 x2 = some (r, MR') ∧ Inv MC' MR' := by
  obtain ⟨bks, hb, h26, h30, hc⟩ := id h
  rw [mX7_copy, mX8_copy]
  rcases book_cases x1 with ⟨a, ha, rfl, e1, e2⟩ | ⟨e1, e2⟩
  rotate_left
  · rw [e1, e2, Option.bind_some, Option.bind_some, if_pos rfl, if_pos rfl]; exact ⟨_, _, _, rfl, rfl, h⟩
  rw [e1, e2, Option.bind_some, Option.bind_some, if_neg one_ne, if_neg one_ne]
  rcases book_cases x2 with ⟨b, h6, rfl, e1, e2⟩ | ⟨e1, e2⟩
  rotate_left
  · rw [e1, e2, Option.bind_some, Option.bind_some, if_pos rfl, if_pos rfl]; exact ⟨_, _, _, rfl, rfl, h⟩
  rw [e1, e2, Option.bind_some, Option.bind_some, if_neg one_ne, if_neg one_ne]
  have hlen := (hb.2.1 a ha).1
  have hln := lnB h6
  obtain ⟨M1, f1, o1, l1⟩ := m_become (hb.1 b h6) (hb.1 a ha) (by omega) (by omega)
  obtain ⟨M2, f2, o2, l2⟩ := r_copy_in ha h6 (hb.2.1 a ha) (hb.2.1 b h6)
  rw [ckI (n := 6) h6 (by omega), ckI (n := 6) ha (by omega), nI_cl (by omega), nI_cl (by omega), f1, Option.bind_some, ckI (n := 6) h6 (by omega), ckI (n := 6) ha (by omega), ckI (n := 6) h6 (by omega), nmd, f2, l1.2.2.1]
  exact ⟨_, _, _, rfl, rfl, Inv.book hb h26 h30 hc h6 o1 l1 o2 l2 (hb.2.2 a ha)⟩
theorem op_count {MC MR : gMem} (h : Inv MC MR) (x1 : Int32) : ∃ r, mX7_count MC x1 = some r ∧ mX8_count MR x1 = some r := by
  obtain ⟨bks, hb, h26, h30, hc⟩ := id h
  rw [mX7_count, mX8_count]
  rcases book_cases x1 with ⟨b, h6, rfl, e1, e2⟩ | ⟨e1, e2⟩
  rotate_left
  · rw [e1, e2, Option.bind_some, Option.bind_some, if_pos rfl, if_pos rfl]; exact ⟨_, rfl, rfl⟩
  rw [e1, e2, Option.bind_some, Option.bind_some, if_neg one_ne, if_neg one_ne, ckI (n := 6) h6 (by omega), ckI (n := 6) h6 (by omega), nI_cl (by omega), (hb.1 b h6).2.2.1, (hb.2.1 b h6).2.1]
  exact ⟨_, rfl, rfl⟩
theorem op_find {MC MR : gMem} (h : Inv MC MR) (x1 x2 : Int32) : ∃ r, mX7_find MC x1 x2 = some r ∧ mX8_find MR x1 x2 = some r := by
  obtain ⟨bks, hb, h26, h30, hc⟩ := id h
  rw [mX7_find, mX8_find]
  rcases book_cases x1 with ⟨b, h6, rfl, e1, e2⟩ | ⟨e1, e2⟩
  rotate_left
  · rw [e1, e2, Option.bind_some, Option.bind_some, if_pos rfl, if_pos rfl]; exact ⟨_, rfl, rfl⟩
  obtain ⟨x, hx, rfl⟩ := nI_all x2
  rw [e1, e2, Option.bind_some, Option.bind_some, if_neg one_ne, if_neg one_ne, ckI (n := 6) h6 (by omega), ckI (n := 6) h6 (by omega), nI_cl (by omega), m_find (hb.1 b h6) (hb.2.2 b h6).1 hx, Option.bind_some, r_number hx, Option.bind_some, r_leads h6 (hb.2.1 b h6) (hb.2.2 b h6) hx, Option.bind_some]
  exact ⟨_, rfl, rfl⟩
theorem op_longest {MC MR : gMem} (h : Inv MC MR) (x1 x2 : Int32) : ∃ r, mX7_longest MC x1 x2 = some r ∧ mX8_longest MR x1 x2 = some r := by
  obtain ⟨bks, hb, h26, h30, hc⟩ := id h
  rw [mX7_longest, mX8_longest]
  rcases book_cases x1 with ⟨b, h6, rfl, e1, e2⟩ | ⟨e1, e2⟩
  rotate_left
  · rw [e1, e2, Option.bind_some, Option.bind_some, if_pos rfl, if_pos rfl]; exact ⟨_, rfl, rfl⟩
  obtain ⟨x, hx, rfl⟩ := nI_all x2
  rw [e1, e2, Option.bind_some, Option.bind_some, if_neg one_ne, if_neg one_ne, ckI (n := 6) h6 (by omega), ckI (n := 6) h6 (by omega), nI_cl (by omega), m_longest (hb.1 b h6) (hb.2.2 b h6).1 hx, Option.bind_some, r_number hx, Option.bind_some, r_best h6 (hb.2.1 b h6) (hb.2.2 b h6) hx, Option.bind_some]
  exact ⟨_, rfl, rfl⟩
theorem m_first {M : gMem} {l : Nat} {B : List L3} (h : LB M l B) {i : Nat} (hi : i < B.length) (hw : wfL (bk B i)) : mX2_first M l (nI i) = some (lN (bk B i).1) := by
  have h1 := h.1; have h2 := h.2.1
  rw [mX2_first, ckI (by omega) (by omega), nI_cl (by omega), (h.2.2.2.2 i hi).1, m_wide hw.1, Option.bind_some]
theorem op_line {MC MR : gMem} (h : Inv MC MR) (x1 x2 x3 : Int32) : ∃ r, mX7_line MC x1 x2 x3 = some r ∧ mX8_line MR x1 x2 x3 = some r := by
  obtain ⟨bks, hb, h26, h30, hc⟩ := id h
  rw [mX7_line, mX8_line]
  rcases book_cases x1 with ⟨b, h6, rfl, e1, e2⟩ | ⟨e1, e2⟩
  rotate_left
  · rw [e1, e2, Option.bind_some, Option.bind_some, if_pos rfl, if_pos rfl]; exact ⟨_, rfl, rfl⟩
  have hL := hb.1 b h6
  have hR := hb.2.1 b h6
  have hw := hb.2.2 b h6
  have hln := lnB h6
  have hlen := hR.1
  rw [e1, e2, Option.bind_some, Option.bind_some, if_neg one_ne, if_neg one_ne, ckI (n := 6) h6 (by omega), ckI (n := 6) h6 (by omega), nI_cl (by omega), hR.2.1, hL.2.2.1]
  have out : (x2 < 0 ∨ nI (bks b).length ≤ x2) → mX8_lies x2 0 (nI (bks b).length - 1) = some 0 := by
    intro q
    rw [mX8_lies]
    by_cases h0 : x2 < 0
    · rw [if_pos h0]
    · rw [if_neg h0, if_pos]
      have q := q.resolve_left h0
      rw [Int32.le_iff_toInt_le, nI_toInt (by omega)] at q
      rw [Int32.lt_iff_toInt_lt]
      by_cases hz : (bks b).length = 0
      · rw [hz]
        have e : (nI 0 - 1 : Int32).toInt = -1 := rfl
        rw [e]
        omega
      · rw [show nI (bks b).length - (1 : Int32) = nI ((bks b).length - 1) from pk_sub (b := 1) (by omega), nI_toInt (by omega)]
        omega
  by_cases h0 : x2 < 0
  · rw [if_pos h0, out (Or.inl h0), Option.bind_some, if_pos rfl]
    refine ⟨_, rfl, ?_⟩
    first | rfl | rw [ckI (n := 6) h6 (by omega)]
  · rw [if_neg h0]
    obtain ⟨i, hi, rfl⟩ := nI_of h0
    by_cases hl : i < (bks b).length
    · have e3 : mX8_lies (nI i) 0 (nI (bks b).length - 1) = some 1 := by
        rw [show nI (bks b).length - (1 : Int32) = nI ((bks b).length - 1) from pk_sub (b := 1) (by omega)]
        exact r_lies_in (by omega) (by omega)
      have w := hw.1 i hl
      rw [if_pos (nI_lt hl (by omega)), e3, Option.bind_some, if_neg one_ne, nmd, ix64, m_first hL hl w, Option.bind_some, ckI (n := 6) h6 (by omega), ckI (n := 6) h6 (by omega), ckI (by omega) (by omega), ckI (by omega) (by omega), nI_cl (n := i) (by omega), (hL.2.2.2.2 i hl).2.1, (hL.2.2.2.2 i hl).2.2, ckJ h6 (by omega), ckJ h6 (by omega), ckJ h6 (by omega), nI_cl (by omega), (hR.2.2 i hl).1, (hR.2.2 i hl).2.1, (hR.2.2 i hl).2.2]
      try rw [ckI (n := 6) h6 (by omega)]
      by_cases z0 : x3 = 0
      · rw [if_pos z0]; exact ⟨_, rfl, rfl⟩
      · by_cases z1 : x3 = 1
        · rw [if_neg z0, if_pos z1]; exact ⟨_, rfl, rfl⟩
        · by_cases z2 : x3 = 2
          · rw [if_neg z0, if_neg z1, if_pos z2]; exact ⟨_, rfl, rfl⟩
          · rw [if_neg z0, if_neg z1, if_neg z2]; exact ⟨_, rfl, rfl⟩
    · rw [if_neg (nI_nlt (by omega) (by omega)), out (Or.inr (nI_le (by omega) (by omega))), Option.bind_some, if_pos rfl]
      refine ⟨_, rfl, ?_⟩
      first | rfl | rw [ckI (n := 6) h6 (by omega)]
