/-! way, step -/
def wy3 (M : gMem) (S : List L3) (m : Nat) : Prop := ∀ i, i < m → M.2 23 i = lN (bk S i).1 ∧ M.1 24 i = nI (bk S i).2.1 ∧ M.1 25 i = nI (bk S i).2.2
theorem r_way_251 {a : Nat} {A U V : List L3} (ha : a < 6) : ∀ f i (M : gMem), i ≤ A.length → A.length - i < f → RB M a A → stR M U V → wy3 M A i → ∃ M', mX8_way_251 f M (nI a) (nI i) = some (nI (U.length + V.length), M') ∧ wKR M M' ∧ M'.1 0 = M.1 0 ∧ stR M' U V ∧ wy3 M' A A.length := by
  intro f
  induction f with
  | zero => intro i M _ h; omega
  | succ f ih =>
    intro i M hi hf hA hS hW
    have a1 := hA.1
    rw [mX8_way_251, ckI (n := 6) ha (by omega), nI_cl (n := a) (by omega), hA.2.1]
    by_cases z : i < A.length
    · obtain ⟨e1, e2, e3⟩ := hA.2.2 i z
      rw [if_neg (nI_ge z (by omega)), ix64, ckJ ha (by omega), ckI (n := 64) (by omega) (by omega), nI_cl (by omega), nI_cl (by omega), e1, nmd, ckJ ha (by omega), ckI (n := 64) (by omega) (by omega), sJ1, e2, nmd, ckJ ha (by omega), ckI (n := 64) (by omega) (by omega), sI1, if_neg (show ¬ (4 = 24 ∧ 64 * a + i = i) by omega), sJ1, e3, nmd, nmd, nI_1]
      have k : wKR M (sI (sI (sJ M 23 i (lN (bk A i).1)) 24 i (nI (bk A i).2.1)) 25 i (nI (bk A i).2.2)) := ((sJ_wK (by omega)).tr (sI_wK (by omega))).tr (sI_wK (by omega))
      have o : ∀ x, x ≠ 23 → x ≠ 24 → x ≠ 25 → (sI (sI (sJ M 23 i (lN (bk A i).1)) 24 i (nI (bk A i).2.1)) 25 i (nI (bk A i).2.2)).1 x = M.1 x ∧ (sI (sI (sJ M 23 i (lN (bk A i).1)) 24 i (nI (bk A i).2.1)) 25 i (nI (bk A i).2.2)).2 x = M.2 x := fun x x1 x2 x3 => ⟨by rw [(sI_off x x3).1, (sI_off x x2).1, sJ1], by rw [(sI_off x x3).2, (sI_off x x2).2, (sJ_off x x1).2]⟩
      obtain ⟨M', g1, g2, g3, g4, g5⟩ := ih (i + 1) (sI (sI (sJ M 23 i (lN (bk A i).1)) 24 i (nI (bk A i).2.1)) 25 i (nI (bk A i).2.2)) (by omega) (by omega) (hA.wk k) ⟨by rw [(o 0 (by omega) (by omega) (by omega)).1]; exact hS.1, fun j hj => by rw [(o 19 (by omega) (by omega) (by omega)).1, (o 20 (by omega) (by omega) (by omega)).2, (o 21 (by omega) (by omega) (by omega)).1, (o 22 (by omega) (by omega) (by omega)).1]; exact hS.2.1 j hj, fun j hj => by rw [(o 19 (by omega) (by omega) (by omega)).1, (o 20 (by omega) (by omega) (by omega)).2, (o 21 (by omega) (by omega) (by omega)).1, (o 22 (by omega) (by omega) (by omega)).1]; exact hS.2.2 j hj⟩ (fun j hj => by
        rw [sI2, sI2, sJ2, sI1, if_neg (show ¬ (24 = 25 ∧ j = i) by omega), sI1, sJ1, sI1, sI1, if_neg (show ¬ (25 = 24 ∧ j = i) by omega), sJ1]
        by_cases c : j = i
        · rw [if_pos (show 23 = 23 ∧ j = i from ⟨rfl, c⟩), if_pos (show 24 = 24 ∧ j = i from ⟨rfl, c⟩), if_pos (show 25 = 25 ∧ j = i from ⟨rfl, c⟩), c]
          exact ⟨rfl, rfl, rfl⟩
        · rw [if_neg (show ¬ (23 = 23 ∧ j = i) from fun q => c q.2), if_neg (show ¬ (24 = 24 ∧ j = i) from fun q => c q.2), if_neg (show ¬ (25 = 25 ∧ j = i) from fun q => c q.2)]
          exact hW j (by omega))
      exact ⟨M', g1, k.tr g2, by rw [g3, (o 0 (by omega) (by omega) (by omega)).1], g4, g5⟩
    · have e : i = A.length := by omega
      subst e
      rw [if_pos (nI_le (Nat.le_refl _) (by omega)), hS.1]
      exact ⟨M, rfl, wKR.rf, rfl, hS, hW⟩
theorem r_way_150 {a b : Nat} {A B U : List L3} (ha : a < 6) (hb : b < 6) (wA : wfB A) (wB : wfB B) (hU : U.length ≤ 64) : ∀ f r (M : gMem), r ≤ 33 → 33 - r < f → RB M a A → RB M b B → stR M U (selD (fun q => ¬ hasB B q) A r) → ∃ M', mX8_way_150 f M (nI a) (nI b) (nI r) = some (nI (U.length + (wV A B).length), M') ∧ wKR M M' ∧ M'.1 0 21 = M.1 0 21 ∧ M'.1 0 27 = nI A.length ∧ stR M' U (wV A B) ∧ wy3 M' A A.length := by
  have hfu := FU_big
  intro f
  induction f with
  | zero => intro r M _ h; omega
  | succ f ih =>
    intro r M hr hf hA hB hS
    have a1 := hA.1
    rw [mX8_way_150]
    by_cases z : r = 33
    · subst z
      have hS : stR M U (wV A B) := hS
      generalize wV A B = V at hS ⊢
      rw [if_pos (show (32 : Int32) < nI 33 by decide), ckI (n := 6) ha (by omega), nI_cl (by omega), hA.2.1, nmd]
      have k : wKR M (sI M 0 27 (nI A.length)) := sI0_wK (by omega)
      obtain ⟨M', g1, g2, g3, g4, g5⟩ := r_way_251 (U := U) (V := V) ha FU 0 (sI M 0 27 (nI A.length)) (by omega) (by omega) (hA.wk k) ⟨by rw [sI1, if_neg (by omega)]; exact hS.1, fun j hj => by rw [(sI_off 19 (by omega)).1, (sI_off 21 (by omega)).1, (sI_off 22 (by omega)).1]; exact hS.2.1 j hj, fun j hj => by rw [(sI_off 19 (by omega)).1, (sI_off 21 (by omega)).1, (sI_off 22 (by omega)).1]; exact hS.2.2 j hj⟩ (fun j hj => by omega)
      exact ⟨M', g1, k.tr g2, by rw [g3, sI1, if_neg (by omega)], by rw [g3, sI1, if_pos ⟨rfl, rfl⟩], g4, g5⟩
    · have hl := selD_len (fun q => ¬ hasB B q) A (r + 1)
      have hl2 := dcnt_le (fun j => decide ((bk A j).2.1 < r + 1)) A.length
      rw [if_neg (show ¬ (32 : Int32) < nI r from nI_nlt (a := 32) (by omega) (by omega))]
      obtain ⟨M1, g1, g2, g3, g4⟩ := r_drops_loop (n := r) (U := U) (V0 := selD (fun q => ¬ hasB B q) A r) ha hb wA wB (by omega) (by rw [selD] at hl; omega) (mX8_way_150 f) FU 0 M (by omega) (by omega) hA hB (by rw [sel, List.append_nil]; exact hS)
      have g1' : mX8_way_159 (mX8_way_150 f) FU M (nI a) (nI b) (nI r) 0 = _ := g1
      rw [g1']
      obtain ⟨M', h1, h2, h3, h4⟩ := ih (r + 1) M1 (by omega) (by omega) (hA.wk g2) (hB.wk g2) g4
      exact ⟨M', h1, g2.tr h2, by rw [h3, g3], h4⟩
theorem r_way_29 {a b : Nat} {A B : List L3} (ha : a < 6) (hb : b < 6) (wA : wfB A) (wB : wfB B) : ∀ f r (M : gMem), r ≤ 33 → 33 - r < f → RB M a A → RB M b B → stR M (selU (fun q => ¬ hasL A q) B r) [] → ∃ M', mX8_way_29 f M (nI a) (nI b) (nI (33 - r) - 1) = mX8_way_150 FU M' (nI a) (nI b) 0 ∧ wKR M M' ∧ M'.1 0 21 = M.1 0 21 ∧ stR M' (wU A B) [] := by
  have hfu := FU_big
  intro f
  induction f with
  | zero => intro r M _ h; omega
  | succ f ih =>
    intro r M hr hf hA hB hS
    have b1 := hB.1
    rw [mX8_way_29]
    by_cases z : r = 33
    · subst z
      rw [if_pos (show nI (33 - 33) - 1 < 0 by decide)]
      exact ⟨M, rfl, wKR.rf, rfl, hS⟩
    · have hl := selU_len (fun q => ¬ hasL A q) B (r + 1) (by omega)
      have hl2 := dcnt_le (fun j => decide (33 ≤ (bk B j).2.1 + (r + 1))) B.length
      have e0 : nI (33 - r) - 1 = nI (32 - r) := by rw [show (1 : Int32) = nI 1 from rfl, pk_sub (by omega)]; congr 1; omega
      rw [e0, if_neg (nI_pos (by omega))]
      obtain ⟨M1, g1, g2, g3, g4⟩ := r_puts_loop (n := 32 - r) (U0 := selU (fun q => ¬ hasL A q) B r) ha hb wA wB (by omega) (by rw [selU] at hl; omega) (mX8_way_29 f) FU 0 M (by omega) (by omega) hA hB (by rw [sel, List.append_nil]; exact hS)
      have g1' : mX8_way_36 (mX8_way_29 f) FU M (nI a) (nI b) (nI (32 - r)) 0 = _ := g1
      rw [g1']
      obtain ⟨M', h1, h2, h3, h4⟩ := ih (r + 1) M1 (by omega) (by omega) (hA.wk g2) (hB.wk g2) g4
      rw [show 33 - (r + 1) = 32 - r by omega] at h1
      exact ⟨M', h1, g2.tr h2, by rw [h3, g3], h4⟩
theorem op_way {MC MR : gMem} (h : Inv MC MR) (x1 x2 : Int32) : ∃ r MC' MR', mX7_way MC x1 x2 = some (r, MC') ∧ mX8_way MR x1 x2 = some (r, MR') ∧ Inv MC' MR' := by
  have hfu := FU_big
  rw [mX7_way, mX8_way]
  rcases book_cases x1 with ⟨a, ha, rfl, e1, e2⟩ | ⟨e1, e2⟩
  rotate_left
  · rw [e1, e2, Option.bind_some, Option.bind_some, if_pos rfl, if_pos rfl]; exact ⟨_, _, _, rfl, rfl, h⟩
  rw [e1, e2, Option.bind_some, Option.bind_some, if_neg one_ne, if_neg one_ne]
  rcases book_cases x2 with ⟨b, hb6, rfl, e1, e2⟩ | ⟨e1, e2⟩
  rotate_left
  · rw [e1, e2, Option.bind_some, Option.bind_some, if_pos rfl, if_pos rfl]; exact ⟨_, _, _, rfl, rfl, h⟩
  rw [e1, e2, Option.bind_some, Option.bind_some, if_neg one_ne, if_neg one_ne, ckI (n := 6) ha (by omega), ckI (n := 6) hb6 (by omega), nI_cl (by omega), nI_cl (by omega), nmd, nmd]
  obtain ⟨bks, hb, h26, h30, ⟨cv, c1, c2, c3⟩, wy, w1, w2, w3⟩ := h
  have hA := hb.2.1 a ha
  have hB := hb.2.1 b hb6
  have wA := hb.2.2 a ha
  have wB := hb.2.2 b hb6
  obtain ⟨⟨S, q1⟩, ⟨U, q2⟩, ⟨V, q3⟩, -⟩ := w1
  obtain ⟨MC', f1, o1, wc⟩ := m_lay (by omega) (by omega) wA wB hA.1 hB.1 (hb.1 a ha) (hb.1 b hb6) q1 q2 q3
  have k0 : wKR MR (sI (sI MR 0 21 1) 0 22 0) := (sI0_wK (by omega)).tr (sI0_wK (by omega))
  have lu := wU_len (bks a) (bks b)
  have lb := hB.1
  obtain ⟨M1, g1, g2, g3, g4⟩ := r_way_29 ha hb6 wA wB FU 0 (sI (sI MR 0 21 1) 0 22 0) (by omega) (by omega) (hA.wk k0) (hB.wk k0) ⟨by rw [sI1, if_pos ⟨rfl, rfl⟩]; rfl, fun i hi => absurd hi (Nat.not_lt_zero i), fun i hi => absurd hi (Nat.not_lt_zero i)⟩
  obtain ⟨M2, j1, j2, j3, j4, j5, j6⟩ := r_way_150 (U := wU (bks a) (bks b)) ha hb6 wA wB (by omega) FU 0 M1 (by omega) (by omega) (hA.wk (k0.tr g2)) (hB.wk (k0.tr g2)) g4
  have g1' : mX8_way_29 FU (sI (sI MR 0 21 1) 0 22 0) (nI a) (nI b) 32 = mX8_way_150 FU M1 (nI a) (nI b) 0 := g1
  have j1' : mX8_way_150 FU M1 (nI a) (nI b) 0 = _ := j1
  have kk : wKR MR M2 := (k0.tr g2).tr j2
  rw [f1, Option.bind_some, g1', j1', wc.2.2.2.1]
  refine ⟨_, _, _, rfl, rfl, bks, ⟨fun c h6 => (hb.1 c h6).off o1 (by omega), fun c h6 => (hb.2.1 c h6).wk kk, hb.2.2⟩, ?_, ?_, ⟨cv, ?_, ?_, c3⟩, some (bks a, wU (bks a) (bks b), wV (bks a) (bks b)), wc, ⟨?_, j5.1, j4, j5.2.1, j5.2.2, j6⟩, wy_ok wA wB hA.1 hB.1⟩
  · obtain ⟨B, q⟩ := h26; exact ⟨B, q.off o1 (by omega)⟩
  · obtain ⟨B, q⟩ := h30; exact ⟨B, q.off o1 (by omega)⟩
  · refine ⟨c1.1, by rw [(o1 50 (by omega)).1]; exact c1.2.1, fun i hi => ?_⟩
    rw [(o1 51 (by omega)).2, (o1 52 (by omega)).1]
    exact c1.2.2 i hi
  · refine ⟨by rw [kk.2 18 (by omega) (by omega) (by omega)]; exact c2.1, fun i hi => ?_⟩
    rw [(kk.1 17 (by omega) (by omega)).2, (kk.1 18 (by omega) (by omega)).1]
    exact c2.2 i hi
  · rw [j3, g3, sI1, if_neg (by omega), sI1, if_pos ⟨rfl, rfl⟩]
theorem m_tell67 {M : gMem} {l i : Nat} {B : List L3} (h : LB M l B) (hi : i < B.length) (w : wfL (bk B i)) (x2 z : Int32) : mX6_tell_67 M x2 z l (nI i) = some (if x2 = 0 then (if z = 0 then 0 else 1) else if x2 = 1 then lN (bk B i).1 else if x2 = 2 then (nI (bk B i).2.1).toInt64 else if x2 = 3 then (nI (bk B i).2.2).toInt64 else -1) := by
  have h1 := h.1; have h2 := h.2.1
  rw [mX6_tell_67, m_first h hi w, Option.bind_some, ckI (by omega) (by omega), ckI (by omega) (by omega), nI_cl (by omega), (h.2.2.2.2 i hi).2.1, (h.2.2.2.2 i hi).2.2]
  by_cases z0 : x2 = 0
  · rw [if_pos z0, if_pos z0]
    by_cases c : z = 0
    · rw [if_pos c, if_pos c]
    · rw [if_neg c, if_neg c]
  · rw [if_neg z0, if_neg z0]
    by_cases z1 : x2 = 1
    · rw [if_pos z1, if_pos z1]
    · rw [if_neg z1, if_neg z1]
      by_cases z2 : x2 = 2
      · rw [if_pos z2, if_pos z2]
      · rw [if_neg z2, if_neg z2]
        by_cases z3 : x2 = 3
        · rw [if_pos z3, if_pos z3]
        · rw [if_neg z3, if_neg z3]
theorem op_step {MC MR : gMem} (h : Inv MC MR) (x1 x2 : Int32) : ∃ r, mX7_step MC x1 x2 = some r ∧ mX8_step_ MR x1 x2 = some r := by
  obtain ⟨bks, hb, h26, h30, -, wy, w1, w2, w3⟩ := h
  rw [mX7_step, mX8_step_, mX6_tell]
  obtain ⟨-, -, -, w1⟩ := w1
  match wy, w1, w2, w3 with
  | none, w1, w2, _ =>
    have w1 : MC.1 53 4 = -1 := w1
    have w2 : MR.1 0 21 = 0 := w2
    rw [w1, w2, if_pos rfl]
    by_cases h0 : x1 < 0
    · rw [if_pos h0, Option.bind_some]; exact ⟨_, rfl, rfl⟩
    · have : ¬ x1 < -1 := by
        rw [Int32.lt_iff_toInt_lt] at h0 ⊢
        have e0 : (0 : Int32).toInt = 0 := rfl
        have e1 : (-1 : Int32).toInt = -1 := rfl
        omega
      rw [if_neg h0, if_neg this, Option.bind_some]; exact ⟨_, rfl, rfl⟩
  | some (S, U, V), w1, w2, w3 =>
    obtain ⟨s1, hS, hU, hV⟩ := w1
    obtain ⟨r1, r2, r3, r4, r5, r6⟩ := w2
    obtain ⟨wS, wU, wV, l1, l2, l3, -⟩ := w3
    rw [s1, r1, r2, if_neg one_ne, hU.2.2.1]
    rcases lies_len (x := x1) (n := U.length + V.length) (by omega) with ⟨i, hi, rfl, e⟩ | ⟨hx, e⟩
    · rw [e, Option.bind_some, if_neg one_ne, if_neg (nI_pos (by omega)), if_pos (nI_lt hi (by omega)), ckI (n := 128) (by omega) (by omega), ckI (n := 128) (by omega) (by omega), ckI (n := 128) (by omega) (by omega), ckI (n := 128) (by omega) (by omega), nI_cl (by omega)]
      have fin : ∀ (q : L3) (kd : Int32), MR.1 19 i = kd → MR.2 20 i = lN q.1 → MR.1 21 i = nI q.2.1 → MR.1 22 i = nI q.2.2 → ∀ v : Int64, kd.toInt64 = v → (if x2 = 0 then some (MR.1 19 i).toInt64 else if x2 = 1 then some (MR.2 20 i) else if x2 = 2 then some (MR.1 21 i).toInt64 else if x2 = 3 then some (MR.1 22 i).toInt64 else some (-1)) = some (if x2 = 0 then v else if x2 = 1 then lN q.1 else if x2 = 2 then (nI q.2.1).toInt64 else if x2 = 3 then (nI q.2.2).toInt64 else -1) := by
        intro q kd a1 a2 a3 a4 v hv
        rw [a1, a2, a3, a4, hv]
        repeat' split
        all_goals rfl
      by_cases c : U.length ≤ i
      · obtain ⟨a1, a2, a3, a4⟩ := r5 (i - U.length) (by omega)
        rw [show U.length + (i - U.length) = i by omega] at a1 a2 a3 a4
        rw [if_pos (nI_le c (by omega)), mX6_tell_32, if_pos rfl, mX6_tell_48, if_pos rfl, hU.2.2.1, pk_sub c, m_tell67 hV (by omega) (wV _ (by omega)), if_pos rfl, Option.bind_some, fin (bk V (i - U.length)) 0 a1 a2 a3 a4 0 rfl]
        exact ⟨_, rfl, rfl⟩
      · obtain ⟨a1, a2, a3, a4⟩ := r4 i (by omega)
        rw [if_neg (nI_ge (by omega) (by omega)), mX6_tell_32, if_neg one_ne, mX6_tell_48, if_neg one_ne, m_tell67 hU (by omega) (wU _ (by omega)), if_neg one_ne, Option.bind_some, fin (bk U i) 1 a1 a2 a3 a4 1 rfl]
        exact ⟨_, rfl, rfl⟩
    · rw [e, Option.bind_some, if_pos rfl]
      by_cases h0 : x1 < 0
      · rw [if_pos h0, Option.bind_some]; exact ⟨_, rfl, rfl⟩
      · rw [if_neg h0, if_neg (fun q => i32_nlt.mpr (hx.resolve_left h0) q), Option.bind_some]; exact ⟨_, rfl, rfl⟩
