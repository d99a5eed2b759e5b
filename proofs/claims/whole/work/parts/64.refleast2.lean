/-! the reference's LEAST LINES: the next level, all levels, and the BOOK -/
theorem HM_add {M : gMem} {H : List P2} {q : P2} (h : HM M H) : HM (sI (sJ M 10 H.length (lN q.1)) 11 H.length (nI q.2)) (H ++ [q]) := by
  intro i hi
  rw [List.length_append, List.length_singleton] at hi
  have a1 : (sI (sJ M 10 H.length (lN q.1)) 11 H.length (nI q.2)).2 10 i = if i = H.length then lN q.1 else M.2 10 i := by
    rw [sI2, sJ2]
    by_cases c : i = H.length
    · rw [if_pos c, if_pos ⟨rfl, c⟩]
    · rw [if_neg c, if_neg (fun z => c z.2)]
  have a2 : (sI (sJ M 10 H.length (lN q.1)) 11 H.length (nI q.2)).1 11 i = if i = H.length then nI q.2 else M.1 11 i := by
    rw [sI1, sJ1]
    by_cases c : i = H.length
    · rw [if_pos c, if_pos ⟨rfl, c⟩]
    · rw [if_neg c, if_neg (fun z => c z.2)]
  rw [a1, a2, ck2_app i (by omega)]
  by_cases c : i = H.length
  · rw [if_pos c, if_pos c, if_neg (by omega)]; exact ⟨rfl, rfl⟩
  · rw [if_neg c, if_neg c, if_pos (by omega)]; exact h i (by omega)
theorem r_least_232 {F : Nat → Nat} (hF : ∀ x, F x ≤ 16) {R : List P2} (hp : pruns F R 4294967296) {k : Nat} {A : List L3} {X : List P2} (hk : k + 1 ≤ 32) (h600 : X.length ≤ 600) (hO : lvO k X) (k25 : gMem → Int32 → Int32 → Int32 → Option (Int32 × gMem)) : ∀ f i (M : gMem), i ≤ X.length → X.length - i < f → RS M R F → NM M X → MD M A → HM M (fm (kX F R k) X i) → ∃ M', mX8_makeLeast_232 k25 f M (nI A.length) (nI (fm (kX F R k) X i).length) (nI (32 - (k + 1))) (nI X.length) (nI i) = k25 M' (nI A.length) (nI (X.flatMap (kX F R k)).length) (nI (32 - k)) ∧ MD M' A ∧ HM M' (X.flatMap (kX F R k)) ∧ LK M M' := by
  intro f
  induction f with
  | zero => intro i M _ h; omega
  | succ f ih =>
    intro i M hi hf hRS hN hA hH
    have bl := fm_le (kX F R k) X (fun q => kX_le q) i
    have l300 := hRS.1.1
    rw [mX8_makeLeast_232]
    by_cases z : i < X.length
    · have q2 := hO.2 _ (ck2_mem z)
      have pk := pw_pos k
      obtain ⟨e1, e2⟩ := hN i z
      have put : ¬ (one R (ck2 X i).1 k ∧ F (ck2 X i).1 = (ck2 X i).2) → ∃ M', mX8_makeLeast_285 k25 (mX8_makeLeast_232 k25 f) M (nI A.length) (nI (fm (kX F R k) X i).length) (nI (32 - (k + 1))) (nI X.length) (nI i) = k25 M' (nI A.length) (nI (X.flatMap (kX F R k)).length) (nI (32 - k)) ∧ MD M' A ∧ HM M' (X.flatMap (kX F R k)) ∧ LK M M' := by
        intro c
        have eX : fm (kX F R k) X (i + 1) = fm (kX F R k) X i ++ [ck2 X i] := by
          rw [fm]
          congr 1
          unfold kX
          rw [dB_f c, if_neg (by simp)]
        have eL : (fm (kX F R k) X (i + 1)).length = (fm (kX F R k) X i).length + 1 := by rw [eX, List.length_append]; rfl
        have x13 : (sJ M 10 (fm (kX F R k) X i).length (lN (ck2 X i).1)).1 13 i = nI (ck2 X i).2 := e2
        rw [mX8_makeLeast_285, ckI (by omega) (by omega), ckI (by omega) (by omega), nI_cl (by omega), nI_cl (by omega), e1, nmd, ckI (by omega) (by omega), ckI (by omega) (by omega), x13, nmd, nmd, nmd, nI_1, nI_1, ← eL]
        have hh := HM_add (q := ck2 X i) hH
        rw [← eX] at hh
        obtain ⟨M2, eM2⟩ : ∃ M2, M2 = sI (sJ M 10 (fm (kX F R k) X i).length (lN (ck2 X i).1)) 11 (fm (kX F R k) X i).length (nI (ck2 X i).2) := ⟨_, rfl⟩
        rw [← eM2] at hh ⊢
        have l2 : LK M M2 := by rw [eM2]; exact (sJ_LK (by omega) (by omega)).tr (sI_LK (by omega) (by omega))
        have o2 : ∀ w, w ≠ 10 → w ≠ 11 → M2.1 w = M.1 w ∧ M2.2 w = M.2 w := by
          intro w w1 w2
          rw [eM2]
          exact ⟨by rw [(sI_off _ w2).1, sJ1], by rw [sI2, (sJ_off _ w1).2]⟩
        obtain ⟨M', r1, r2, r3, r4⟩ := ih (i + 1) M2 (by omega) (by omega) (hRS.lk l2) (fun j hj => by rw [(o2 12 (by omega) (by omega)).2, (o2 13 (by omega) (by omega)).1]; exact hN j hj) (MD_keep hA ⟨(o2 14 (by omega) (by omega)).2, (o2 15 (by omega) (by omega)).1, (o2 16 (by omega) (by omega)).1⟩) hh
        exact ⟨M', r1, r2, r3, l2.tr r4⟩
      rw [if_neg (nI_ge z (by omega)), ckI (by omega) (by omega), nI_cl (by omega), e1, nI_b hk, r_isOne hRS.1 hp (by omega) q2.2.1, Option.bind_some]
      by_cases c : one R (ck2 X i).1 k
      · obtain ⟨j, j1, j2, j3⟩ := one_span hRS.1 hp q2.2.1 c
        have v := j3 (ck2 X i).1 (Nat.le_refl _) (by omega)
        have v16 : (ck2 R j).2 ≤ 16 := by rw [← v]; exact hF _
        have q16 := q2.2.2
        rw [dB_t c, if_neg (show ¬ bz true = 0 from one_ne), ckI (by omega) (by omega), j2, Option.bind_some, ckI (by omega) (by omega), ckI (by omega) (by omega), nI_cl (by omega), (hRS.1.2.2 j j1).2, e2]
        by_cases c2 : (ck2 R j).2 = (ck2 X i).2
        · have eX : fm (kX F R k) X (i + 1) = fm (kX F R k) X i := by
            rw [fm]
            unfold kX
            rw [dB_t (show one R (ck2 X i).1 k ∧ F (ck2 X i).1 = (ck2 X i).2 from ⟨c, by rw [v, c2]⟩), if_pos rfl, List.append_nil]
          rw [if_pos (by rw [c2]), nmd, nI_1]
          obtain ⟨M', r1, r2, r3, r4⟩ := ih (i + 1) M (by omega) (by omega) hRS hN hA (by rw [eX]; exact hH)
          rw [eX] at r1
          exact ⟨M', r1, r2, r3, r4⟩
        · rw [if_neg (fun y => c2 ((nI_inj (by omega) (by omega)).mp y))]
          exact put (fun y => c2 (by rw [← v]; exact y.2))
      · rw [dB_f c, if_pos (show bz false = 0 from rfl)]
        exact put (fun y => c y.1)
    · have ei : i = X.length := by omega
      subst ei
      rw [if_pos (nI_le (by omega) (by omega)), nmd, nI_b hk]
      rw [fm_all] at hH
      rw [fm_all]
      exact ⟨M, rfl, hA, hH, LK.rf⟩
/-- the last level -/
theorem r_least_last {F : Nat → Nat} (hF : ∀ x, F x ≤ 16) {R : List P2} (hp : pruns F R 4294967296) {A : List L3} {H : List P2} (h600 : H.length ≤ 600) (hO : lvO 0 H) (hAl : A.length + 600 < 100000) (k25 : gMem → Int32 → Int32 → Int32 → Option (Int32 × gMem)) : ∀ f i (M : gMem), i ≤ H.length → H.length - i < f → RS M R F → HM M H → MD M (A ++ fm (oX F 0) H i) → ∃ M', mX8_makeLeast_41 k25 f M (nI (A ++ fm (oX F 0) H i).length) (nI H.length) (nI 32) 0 (nI i) = k25 M' (nI (A ++ H.flatMap (oX F 0)).length) 0 (nI 33) ∧ MD M' (A ++ H.flatMap (oX F 0)) ∧ LK M M' := by
  intro f
  induction f with
  | zero => intro i M _ h; omega
  | succ f ih =>
    intro i M hi hf hRS hH hA
    have bl := fm_le (oX F 0) H (fun q => oX_le q) i
    rw [mX8_makeLeast_41]
    by_cases z : i < H.length
    · have q2 := hO.2 _ (ck2_mem z)
      have hz := mset_isZ hF 0 (ck2 H i).1
      obtain ⟨e1, e2⟩ := hH i z
      have l1 : (ck2 H i).1 < 4294967296 := by have := q2.2.1; rw [show 2 ^ 0 = 1 from rfl] at this; omega
      have so := r_setAt hF hRS.1 hp hRS.2 (show 0 ≤ 32 by omega) q2.2.1 q2.1
      have so' : mX8_setOf M (lN (ck2 H i).1) (nI 32) = _ := so
      have tail : ∀ M1, MD M1 (A ++ fm (oX F 0) H i ++ oX F 0 (ck2 H i)) → LK M M1 → M1.2 10 = M.2 10 → M1.1 11 = M.1 11 → ∃ M', mX8_makeLeast_143 k25 (mX8_makeLeast_41 k25 f) M1 (nI (A ++ fm (oX F 0) H i ++ oX F 0 (ck2 H i)).length) (nI H.length) (nI 32) 0 (nI i) (nI (goes (mset F 0 (ck2 H i).1) (ck2 H i).2)) = k25 M' (nI (A ++ H.flatMap (oX F 0)).length) 0 (nI 33) ∧ MD M' (A ++ H.flatMap (oX F 0)) ∧ LK M M' := by
        intro M1 mA l1 m10 m11
        have hRS1 := hRS.lk l1
        have hH1 : HM M1 H := fun j hj => by rw [m10, m11]; exact hH j hj
        have eA : A ++ fm (oX F 0) H i ++ oX F 0 (ck2 H i) = A ++ fm (oX F 0) H (i + 1) := by rw [fm, List.append_assoc]
        rw [eA] at mA ⊢
        have io := r_isOne hRS1.1 hp (show 0 ≤ 32 by omega) q2.2.1
        have io' : mX8_isOne M1 (lN (ck2 H i).1) (nI 32) = _ := io
        rw [mX8_makeLeast_143, ckI (by omega) (by omega), nI_cl (by omega), (hH1 i z).1, io', Option.bind_some, dB_t (one_0 R _), if_neg (show ¬ bz true = 0 from one_ne), nmd, nI_1]
        obtain ⟨M', r1, r2, r3⟩ := ih (i + 1) M1 (by omega) (by omega) hRS1 hH1 mA
        exact ⟨M', r1, r2, l1.tr r3⟩
      have al1 : (A ++ fm (oX F 0) H i).length < 100000 := by rw [List.length_append]; omega
      rw [if_neg (nI_ge z (by omega)), ckI (by omega) (by omega), nI_cl (by omega), e1, so', Option.bind_some, ckI (by omega) (by omega), e2]
      obtain ⟨M1, w1, w2, w3, w4, w5, w6, w7⟩ := r_own hF (k := 0) (by omega) z h600 hH hA q2.2.2 l1 al1 k25 (mX8_makeLeast_41 k25 f) 0
      have w1' : mX8_makeLeast_92 k25 (mX8_makeLeast_41 k25 f) M (nI (A ++ fm (oX F 0) H i).length) (nI H.length) (nI 32) 0 (nI i) (nI (goes (mset F 0 (ck2 H i).1) (ck2 H i).2)) = mX8_makeLeast_143 k25 (mX8_makeLeast_41 k25 f) M1 (nI (A ++ fm (oX F 0) H i ++ oX F 0 (ck2 H i)).length) (nI H.length) (nI 32) 0 (nI i) (nI (goes (mset F 0 (ck2 H i).1) (ck2 H i).2)) := w1
      have t := tail M1 w2 w3 w4 w5
      by_cases c : hasG (mset F 0 (ck2 H i).1) (ck2 H i).2
      · rw [if_pos ((r_test hz q2.2.2).mpr c), ckI (by omega) (by omega)]
        rw [← w1', goes_in c] at t
        exact t
      · rw [if_neg (fun y => c ((r_test hz q2.2.2).mp y)), r_lowest hz, Option.bind_some]
        have gl : goes (mset F 0 (ck2 H i).1) (ck2 H i).2 = lowB (mset F 0 (ck2 H i).1) := if_neg c
        rw [← w1', gl] at t
        exact t
    · have ei : i = H.length := by omega
      subst ei
      rw [if_pos (nI_le (by omega) (by omega))]
      rw [fm_all] at hA
      rw [fm_all]
      obtain ⟨n, hn⟩ : ∃ n, FU = n + 1 := ⟨FU - 1, by have := FU_big; omega⟩
      rw [hn, mX8_makeLeast_232, if_pos (show (0 : Int32) ≤ 0 by decide), nmd, nI_1]
      exact ⟨M, rfl, hA, LK.rf⟩
theorem r_least_levels {F : Nat → Nat} (hF : ∀ x, F x ≤ 16) {R : List P2} (hp : pruns F R 4294967296) (Z : List L3) : ∀ k f (M : gMem) (A : List L3) (H : List P2), k ≤ 32 → k + 2 ≤ f → RS M R F → HM M H → MD M A → lvO k H → H.length ≤ 600 → A.length ≤ 600 * (32 - k) → Z.Perm (A ++ dF F k H) → ∃ M' A', mX8_makeLeast_25 f M (nI A.length) (nI H.length) (nI (32 - k)) = some (nI A'.length, M') ∧ MD M' A' ∧ M'.1 0 14 = nI A'.length ∧ Z.Perm A' ∧ RK M M' := by
  have fin : ∀ (M : gMem) (A : List L3), MD M A → MD (sI M 0 14 (nI A.length)) A := fun M A h => MD_keep h ⟨rfl, (sI_off _ (by omega)).1, (sI_off _ (by omega)).1⟩
  have hfu := FU_big
  intro k
  induction k with
  | zero =>
    intro f M A H hk hf hRS hH hA hO h6 hAl hZ
    obtain ⟨f', rfl⟩ : ∃ f', f = f' + 1 := ⟨f - 1, by omega⟩
    rw [mX8_makeLeast_25, if_neg (show ¬ (32 : Int32) < nI (32 - 0) by decide)]
    by_cases c : H.length = 0
    · have e := List.length_eq_zero_iff.mp c
      subst e
      rw [if_pos (show nI ([] : List P2).length ≤ 0 by decide), nmd]
      refine ⟨_, A, rfl, fin M A hA, by rw [sI1, if_pos ⟨rfl, rfl⟩], ?_, sI0_RK (by omega)⟩
      unfold dF at hZ
      simpa using hZ
    · rw [if_neg (nI_nle (by omega) (by omega))]
      obtain ⟨M1, r1, r2, r3⟩ := r_least_last hF hp (A := A) h6 hO (by omega) (mX8_makeLeast_25 f') FU 0 M (by omega) (by omega) hRS hH (by rw [fm, List.append_nil]; exact hA)
      rw [fm, List.append_nil] at r1
      have r1' : mX8_makeLeast_41 (mX8_makeLeast_25 f') FU M (nI A.length) (nI H.length) (nI (32 - 0)) 0 0 = _ := r1
      rw [r1']
      obtain ⟨f'', rfl⟩ : ∃ f'', f' = f'' + 1 := ⟨f' - 1, by omega⟩
      rw [mX8_makeLeast_25, if_pos (show (32 : Int32) < nI 33 by decide), nmd]
      refine ⟨_, _, rfl, fin M1 _ r2, by rw [sI1, if_pos ⟨rfl, rfl⟩], ?_, r3.1.tr (sI0_RK (by omega))⟩
      have e : dF F 0 H = H.flatMap (oX F 0) := rfl
      rw [← e]; exact hZ
  | succ k ih =>
    intro f M A H hk hf hRS hH hA hO h6 hAl hZ
    obtain ⟨f', rfl⟩ : ∃ f', f = f' + 1 := ⟨f - 1, by omega⟩
    rw [mX8_makeLeast_25, if_neg (show ¬ (32 : Int32) < nI (32 - (k + 1)) from nI_nlt (a := 32) (by omega) (by omega))]
    by_cases c : H.length = 0
    · have e := List.length_eq_zero_iff.mp c
      subst e
      rw [if_pos (show nI ([] : List P2).length ≤ 0 by decide), nmd]
      refine ⟨_, A, rfl, fin M A hA, by rw [sI1, if_pos ⟨rfl, rfl⟩], ?_, sI0_RK (by omega)⟩
      unfold dF at hZ
      simpa using hZ
    · rw [if_neg (nI_nle (by omega) (by omega))]
      obtain ⟨L, hL, hL2, hL3⟩ := hRS.2 (k + 1) (by omega) hk
      have xl := lvX_len (F := F) hL3 hO
      have l3 := hL.1
      have ok := lvX_ok hF (R := R) hO
      have ok2 := lvK_ok (F := F) (R := R) ok
      obtain ⟨M1, r1, r2, r3, r4⟩ := r_least_41 hF hp (A := A) hk h6 hO (by omega) (by omega) (mX8_makeLeast_25 f') FU 0 M (by omega) (by omega) hRS hH (by rw [fm, List.append_nil]; exact hA) (fun i hi => by rw [fm] at hi; simp at hi)
      rw [fm, List.append_nil] at r1
      have r1' : mX8_makeLeast_41 (mX8_makeLeast_25 f') FU M (nI A.length) (nI H.length) (nI (32 - (k + 1))) 0 0 = _ := r1
      rw [r1']
      obtain ⟨M2, q1, q2, q3, q4⟩ := r_least_232 hF hp (A := A ++ H.flatMap (oX F (k + 1))) hk (by omega) ok (mX8_makeLeast_25 f') FU 0 M1 (by omega) (by omega) (hRS.lk r4) r3 r2 (fun i hi => by rw [fm] at hi; simp at hi)
      have q1' : mX8_makeLeast_232 (mX8_makeLeast_25 f') FU M1 (nI (A ++ H.flatMap (oX F (k + 1))).length) 0 (nI (32 - (k + 1))) (nI (H.flatMap (sX F R k)).length) 0 = _ := q1
      rw [q1']
      have kl : ((H.flatMap (sX F R k)).flatMap (kX F R k)).length ≤ 600 := by
        have a := fm_le (kX F R k) (H.flatMap (sX F R k)) (fun q => kX_le q) (H.flatMap (sX F R k)).length
        rw [fm_all] at a; omega
      have ol : (H.flatMap (oX F (k + 1))).length ≤ 600 := by
        have a := fm_le (oX F (k + 1)) H (fun q => oX_le q) H.length
        rw [fm_all] at a; omega
      obtain ⟨M3, A3, s1, s2, s3, s4, s5⟩ := ih f' M2 (A ++ H.flatMap (oX F (k + 1))) _ (by omega) (by omega) ((hRS.lk r4).lk q4) q3 q2 ok2 kl (by rw [List.length_append]; omega) (by
        refine hZ.trans ?_
        rw [List.append_assoc]
        exact List.Perm.append_left _ (level_perm hF hp hO (fun q hq => (ok.2 q hq).2.1)))
      exact ⟨M3, A3, s1, s2, s3, s4, (r4.1.tr q4.1).tr s5⟩
theorem lv0 : lvO 32 [(0, 16)] := ⟨by simp, fun q hq => by
  rw [List.mem_singleton.mp hq]
  exact ⟨Nat.zero_mod _, by omega, by omega⟩⟩
theorem r_makeLeast {F : Nat → Nat} (hF : ∀ x, F x ≤ 16) {M : gMem} {R : List P2} (hS : SPR M R) (hp : pruns F R 4294967296) : ∃ M' A, mX8_makeLeast M = some (nI A.length, M') ∧ MD M' A ∧ M'.1 0 14 = nI A.length ∧ (mleast F 32 0 16).Perm A ∧ RK M M' := by
  have hfu := FU_big
  obtain ⟨M1, e1, e2, e3, e4⟩ := r_makeSets hF hS hp
  rw [mX8_makeLeast, e1, Option.bind_some, ck_t (show inb (0 : Int32) 600 = true by decide), nmd, ck_t (show inb (0 : Int32) 600 = true by decide), nmd]
  obtain ⟨M2, eM2⟩ : ∃ M2, M2 = sI (sJ M1 10 ((0 : Int32).toNatClampNeg) (0 : Int64)) 11 ((0 : Int32).toNatClampNeg) (16 : Int32) := ⟨_, rfl⟩
  rw [← eM2]
  have l2 : LK M1 M2 := by rw [eM2]; exact (sJ_LK (by omega) (by omega)).tr (sI_LK (by omega) (by omega))
  have hH : HM M2 [(0, 16)] := by
    rw [eM2]
    exact HM_add (M := M1) (H := []) (q := (0, 16)) (fun i hi => by simp at hi)
  obtain ⟨M3, A, s1, s2, s3, s4, s5⟩ := r_least_levels hF hp (mleast F 32 0 16) 32 FU M2 [] [(0, 16)] (by omega) (by omega) ((show RS M1 R F from ⟨e2, e4⟩).lk l2) hH (fun i hi => by simp at hi) lv0 (by simp) (by simp) (by
    have : dF F 32 [(0, 16)] = mleast F 32 0 16 := by
      unfold dF
      rw [List.flatMap_cons, List.flatMap_nil, List.append_nil]
    rw [this, List.nil_append])
  have s1' : mX8_makeLeast_25 FU M2 0 1 0 = some (nI A.length, M3) := s1
  exact ⟨M3, A, s1', s2, s3, s4, (e3.tr l2.1).tr s5⟩
