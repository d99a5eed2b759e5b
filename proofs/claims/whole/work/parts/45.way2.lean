/-! way: the class's lay, the reference's way -/
theorem m_lay_44 {lA lB : Nat} {A B : List L3} (hdA : lA + 4 ≤ 53) (hdB : lB + 4 ≤ 53) (wA : wfB A) (wB : wfB B) (hA64 : A.length ≤ 64) : ∀ f r (M : gMem), r ≤ 33 → 33 - r < f → LB M lA A → LB M lB B → LB M 62 (selD (fun q => ¬ hasB B q) A r) → ∃ M', mX6_lay_44 f M lA lB (nI r) = some (sI M' 53 4 (M'.1 58 4 + M'.1 62 4)) ∧ Off 62 4 M M' ∧ LB M' 62 (wV A B) := by
  have hfu := FU_big
  intro f
  induction f with
  | zero => intro r M _ h; omega
  | succ f ih =>
    intro r M hr hf hA hB hV
    rw [mX6_lay_44]
    by_cases z : r = 33
    · subst z
      rw [if_pos (show (32 : Int32) < nI 33 by decide), nmd]
      exact ⟨M, rfl, Off.rf, hV⟩
    · have hl := selD_len (fun q => ¬ hasB B q) A (r + 1)
      have hl2 := dcnt_le (fun j => decide ((bk A j).2.1 < r + 1)) A.length
      rw [if_neg (show ¬ (32 : Int32) < nI r from nI_nlt (a := 32) (by omega) (by omega)), mX6_appendDrops]
      obtain ⟨M1, e1, o1, v1⟩ := m_drops_loop (n := r) (U0 := selD (fun q => ¬ hasB B q) A r) (by omega) (by omega) wA wB (by omega) (by rw [selD] at hl; omega) FU 0 M (by omega) (by omega) hA hB (by rw [sel, List.append_nil]; exact hV)
      have e1' : mX6_appendDrops_3 FU M lA lB (nI r) 0 = some M1 := e1
      rw [e1', Option.bind_some, nmd, nI_1]
      obtain ⟨M', g1, g2, g3⟩ := ih (r + 1) M1 (by omega) (by omega) (hA.off o1 (by omega)) (hB.off o1 (by omega)) v1
      exact ⟨M', g1, o1.tr g2, g3⟩
theorem m_lay_25 {lA lB : Nat} {A B : List L3} (hdA : lA + 4 ≤ 53) (hdB : lB + 4 ≤ 53) (wA : wfB A) (wB : wfB B) (hB64 : B.length ≤ 64) : ∀ f r (M : gMem), r ≤ 33 → 33 - r < f → LB M lA A → LB M lB B → LB M 58 (selU (fun q => ¬ hasL A q) B r) → ∃ M', mX6_lay_25 f M lA lB (nI (33 - r) - 1) = mX6_lay_44 FU M' lA lB 0 ∧ Off 58 4 M M' ∧ LB M' 58 (wU A B) := by
  have hfu := FU_big
  intro f
  induction f with
  | zero => intro r M _ h; omega
  | succ f ih =>
    intro r M hr hf hA hB hU
    rw [mX6_lay_25]
    by_cases z : r = 33
    · subst z
      rw [if_pos (show nI (33 - 33) - 1 < 0 by decide)]
      exact ⟨M, rfl, Off.rf, hU⟩
    · have hl := selU_len (fun q => ¬ hasL A q) B (r + 1) (by omega)
      have hl2 := dcnt_le (fun j => decide (33 ≤ (bk B j).2.1 + (r + 1))) B.length
      have e0 : nI (33 - r) - 1 = nI (32 - r) := by rw [show (1 : Int32) = nI 1 from rfl, pk_sub (by omega)]; congr 1; omega
      rw [e0, if_neg (nI_pos (by omega)), mX6_appendPuts]
      obtain ⟨M1, e1, o1, v1⟩ := m_puts_loop (n := 32 - r) (U0 := selU (fun q => ¬ hasL A q) B r) (by omega) (by omega) wA wB (by omega) (by rw [selU] at hl; omega) FU 0 M (by omega) (by omega) hA hB (by rw [sel, List.append_nil]; exact hU)
      have e1' : mX6_appendPuts_3 FU M lA lB (nI (32 - r)) 0 = some M1 := e1
      rw [e1', Option.bind_some, nmd, i32_m1]
      obtain ⟨M', g1, g2, g3⟩ := ih (r + 1) M1 (by omega) (by omega) (hA.off o1 (by omega)) (hB.off o1 (by omega)) v1
      rw [show 33 - (r + 1) = 32 - r by omega] at g1
      exact ⟨M', g1, o1.tr g2, g3⟩
theorem m_lay {M : gMem} {lA lB : Nat} {A B S U V : List L3} (hdA : lA + 4 ≤ 53) (hdB : lB + 4 ≤ 53) (wA : wfB A) (wB : wfB B) (hA64 : A.length ≤ 64) (hB64 : B.length ≤ 64) (hA : LB M lA A) (hB : LB M lB B) (hS : LB M 54 S) (hU : LB M 58 U) (hV : LB M 62 V) : ∃ M', mX6_lay M lA lB = some M' ∧ Off 53 14 M M' ∧ wyC M' (some (A, wU A B, wV A B)) := by
  have hfu := FU_big
  obtain ⟨M1, e1, o1, s1⟩ := m_become hS hA (by rw [ln54]; exact hA64) (by omega)
  have hA1 := hA.off o1 (by omega)
  have hB1 := hB.off o1 (by omega)
  obtain ⟨M2, e2, o2, u2⟩ := m_clear (hU.off o1 (by omega))
  have hA2 := hA1.off o2 (by omega)
  have hB2 := hB1.off o2 (by omega)
  obtain ⟨M3, e3, o3, v3⟩ := m_clear ((hV.off o1 (by omega)).off o2 (by omega))
  have hA3 := hA2.off o3 (by omega)
  have hB3 := hB2.off o3 (by omega)
  obtain ⟨M4, e4, o4, u4⟩ := m_lay_25 hdA hdB wA wB hB64 FU 0 M3 (by omega) (by omega) hA3 hB3 (u2.off o3 (by omega))
  have hA4 := hA3.off o4 (by omega)
  have hB4 := hB3.off o4 (by omega)
  obtain ⟨M5, e5, o5, v5⟩ := m_lay_44 hdA hdB wA wB hA64 FU 0 M4 (by omega) (by omega) hA4 hB4 (v3.off o4 (by omega))
  have u5 := u4.off o5 (by omega)
  have s5 := (((s1.off o2 (by omega)).off o3 (by omega)).off o4 (by omega)).off o5 (by omega)
  have e4' : mX6_lay_25 FU M3 lA lB 32 = mX6_lay_44 FU M4 lA lB 0 := e4
  have e5' : mX6_lay_44 FU M4 lA lB 0 = _ := e5
  rw [mX6_lay, e1, Option.bind_some, e2, Option.bind_some, e3, Option.bind_some, e4', e5', u5.2.2.1, v5.2.2.1, nI_add]
  have o6 : Off 53 1 M5 (sI M5 53 4 (nI ((wU A B).length + (wV A B).length))) := sI_Off (by omega)
  refine ⟨_, rfl, (((((o1.mono (by omega) (by omega)).tr (o2.mono (by omega) (by omega))).tr (o3.mono (by omega) (by omega))).tr (o4.mono (by omega) (by omega))).tr (o5.mono (by omega) (by omega))).tr (o6.mono (by omega) (by omega)), ⟨A, s5.off o6 (by omega)⟩, ⟨_, u5.off o6 (by omega)⟩, ⟨_, v5.off o6 (by omega)⟩, by rw [sI1, if_pos ⟨rfl, rfl⟩], s5.off o6 (by omega), u5.off o6 (by omega), v5.off o6 (by omega)⟩
/-! the reference -/
def stR (M : gMem) (U V : List L3) : Prop := M.1 0 22 = nI (U.length + V.length) ∧ (∀ i, i < U.length → M.1 19 i = 1 ∧ M.2 20 i = lN (bk U i).1 ∧ M.1 21 i = nI (bk U i).2.1 ∧ M.1 22 i = nI (bk U i).2.2) ∧ ∀ i, i < V.length → M.1 19 (U.length + i) = 0 ∧ M.2 20 (U.length + i) = lN (bk V i).1 ∧ M.1 21 (U.length + i) = nI (bk V i).2.1 ∧ M.1 22 (U.length + i) = nI (bk V i).2.2
def wKR (M M' : gMem) : Prop := (∀ k, k ≠ 0 → (k < 19 ∨ 25 < k) → M'.1 k = M.1 k ∧ M'.2 k = M.2 k) ∧ (∀ j, j ≠ 21 → j ≠ 22 → j ≠ 27 → M'.1 0 j = M.1 0 j)
theorem wKR.rf {M : gMem} : wKR M M := ⟨fun _ _ _ => ⟨rfl, rfl⟩, fun _ _ _ _ => rfl⟩
theorem wKR.tr {M M1 M2 : gMem} (h : wKR M M1) (g : wKR M1 M2) : wKR M M2 := ⟨fun k a b => ⟨(g.1 k a b).1.trans (h.1 k a b).1, (g.1 k a b).2.trans (h.1 k a b).2⟩, fun j a b c => (g.2 j a b c).trans (h.2 j a b c)⟩
theorem RB.wk {M M' : gMem} {b : Nat} {B : List L3} (h : RB M b B) (k : wKR M M') : RB M' b B := by
  obtain ⟨h1, h2, h3⟩ := h
  refine ⟨h1, by rw [(k.1 1 (by omega) (by omega)).1]; exact h2, fun i hi => ?_⟩
  rw [(k.1 2 (by omega) (by omega)).2, (k.1 3 (by omega) (by omega)).1, (k.1 4 (by omega) (by omega)).1]
  exact h3 i hi
theorem sI_wK {M : gMem} {k j : Nat} {v : Int32} (h : 19 ≤ k ∧ k ≤ 25) : wKR M (sI M k j v) := ⟨fun x a b => sI_off x (by omega), fun x _ _ _ => by rw [sI1, if_neg (by omega)]⟩
theorem sJ_wK {M : gMem} {k j : Nat} {v : Int64} (h : 19 ≤ k ∧ k ≤ 25) : wKR M (sJ M k j v) := ⟨fun x a b => sJ_off x (by omega), fun x _ _ _ => rfl⟩
theorem sI0_wK {M : gMem} {j : Nat} {v : Int32} (h : j = 21 ∨ j = 22 ∨ j = 27) : wKR M (sI M 0 j v) := ⟨fun x a b => sI_off x (by omega), fun x a b c => by rw [sI1, if_neg (by omega)]⟩
def wst (M : gMem) (k : Nat) (kd : Int32) (a : Int64) (n g : Int32) : gMem := sI (sI (sI (sJ (sI M 19 k kd) 20 k a) 21 k n) 22 k g) 0 22 (nI (k + 1))
theorem wst_wK {M : gMem} {k : Nat} {kd : Int32} {a : Int64} {n g : Int32} : wKR M (wst M k kd a n g) := ((((sI_wK (by omega)).tr (sJ_wK (by omega))).tr (sI_wK (by omega))).tr (sI_wK (by omega))).tr (sI0_wK (by omega))
theorem wst_at {M : gMem} {k : Nat} {kd : Int32} {a : Int64} {n g : Int32} (j : Nat) : (wst M k kd a n g).1 19 j = (if j = k then kd else M.1 19 j) ∧ (wst M k kd a n g).2 20 j = (if j = k then a else M.2 20 j) ∧ (wst M k kd a n g).1 21 j = (if j = k then n else M.1 21 j) ∧ (wst M k kd a n g).1 22 j = (if j = k then g else M.1 22 j) ∧ (wst M k kd a n g).1 0 22 = nI (k + 1) ∧ (wst M k kd a n g).1 0 21 = M.1 0 21 := by
  unfold wst
  simp only [sI1, sI2, sJ1, sJ2]
  by_cases h : j = k <;> simp [h]
theorem r_step {M : gMem} {k : Nat} (hk : k < 128) (h : M.1 0 22 = nI k) (kd : Int32) (a : Int64) (n g : Int32) : mX8_step M kd a n g = some (wst M k kd a n g) := by
  rw [mX8_step, h, ckI hk (by omega), nI_cl (by omega), nmd]
  have e1 : (sI M 19 k kd).1 0 22 = nI k := by rw [sI1, if_neg (by omega), h]
  rw [e1, ckI hk (by omega), nI_cl (by omega), nmd, sJ1, e1, ckI hk (by omega), nI_cl (by omega), nmd]
  have e2 : (sI (sJ (sI M 19 k kd) 20 k a) 21 k n).1 0 22 = nI k := by rw [sI1, if_neg (by omega), sJ1, e1]
  rw [e2, ckI hk (by omega), nI_cl (by omega), nmd, nmd]
  have e3 : (sI (sI (sJ (sI M 19 k kd) 20 k a) 21 k n) 22 k g).1 0 22 = nI k := by rw [sI1, if_neg (by omega), e2]
  rw [e3, nI_1]
  rfl
theorem st_put {M : gMem} {U : List L3} {q : L3} (h : stR M U []) : stR (wst M U.length 1 (lN q.1) (nI q.2.1) (nI q.2.2)) (U ++ [q]) [] := by
  have len : (U ++ [q]).length = U.length + 1 := by rw [List.length_append]; rfl
  refine ⟨by rw [(wst_at 0).2.2.2.2.1, len]; rfl, fun i hi => ?_, fun i hi => absurd hi (Nat.not_lt_zero i)⟩
  rw [len] at hi
  obtain ⟨a1, a2, a3, a4, -⟩ := wst_at (M := M) (k := U.length) (kd := 1) (a := lN q.1) (n := nI q.2.1) (g := nI q.2.2) i
  rw [a1, a2, a3, a4, bk_app i (by omega)]
  by_cases c : i < U.length
  · have c1 : ¬ i = U.length := by omega
    rw [if_neg c1, if_neg c1, if_neg c1, if_neg c1, if_pos c]
    exact h.2.1 i c
  · have c1 : i = U.length := by omega
    rw [if_pos c1, if_pos c1, if_pos c1, if_pos c1, if_neg c]
    exact ⟨rfl, rfl, rfl, rfl⟩
theorem st_drop {M : gMem} {U V : List L3} {q : L3} (h : stR M U V) : stR (wst M (U.length + V.length) 0 (lN q.1) (nI q.2.1) (nI q.2.2)) U (V ++ [q]) := by
  have len : (V ++ [q]).length = V.length + 1 := by rw [List.length_append]; rfl
  refine ⟨by rw [(wst_at 0).2.2.2.2.1, len]; rfl, fun i hi => ?_, fun i hi => ?_⟩
  · obtain ⟨a1, a2, a3, a4, -⟩ := wst_at (M := M) (k := U.length + V.length) (kd := 0) (a := lN q.1) (n := nI q.2.1) (g := nI q.2.2) i
    have c1 : ¬ i = U.length + V.length := by omega
    rw [a1, a2, a3, a4, if_neg c1, if_neg c1, if_neg c1, if_neg c1]
    exact h.2.1 i hi
  · rw [len] at hi
    obtain ⟨a1, a2, a3, a4, -⟩ := wst_at (M := M) (k := U.length + V.length) (kd := 0) (a := lN q.1) (n := nI q.2.1) (g := nI q.2.2) (U.length + i)
    rw [a1, a2, a3, a4, bk_app i (by omega)]
    by_cases c : i < V.length
    · have c1 : ¬ U.length + i = U.length + V.length := by omega
      rw [if_neg c1, if_neg c1, if_neg c1, if_neg c1, if_pos c]
      exact h.2.2 i c
    · have c1 : U.length + i = U.length + V.length := by omega
      rw [if_pos c1, if_pos c1, if_pos c1, if_pos c1, if_neg c]
      exact ⟨rfl, rfl, rfl, rfl⟩
theorem r_puts_loop {a b n : Nat} {A B U0 : List L3} (ha : a < 6) (hb : b < 6) (wA : wfB A) (wB : wfB B) (hn : n ≤ 32) (hlen : (U0 ++ sel (fun q => ¬ hasL A q) B n B.length).length ≤ 64) (k : gMem → Int32 → Int32 → Int32 → Option (Int32 × gMem)) : ∀ f i (M : gMem), i ≤ B.length → B.length - i < f → RB M a A → RB M b B → stR M (U0 ++ sel (fun q => ¬ hasL A q) B n i) [] → ∃ M', mX8_way_36 k f M (nI a) (nI b) (nI n) (nI i) = k M' (nI a) (nI b) (nI n - 1) ∧ wKR M M' ∧ M'.1 0 21 = M.1 0 21 ∧ stR M' (U0 ++ sel (fun q => ¬ hasL A q) B n B.length) [] := by
  intro f
  induction f with
  | zero => intro i M _ h; omega
  | succ f ih =>
    intro i M hi hf hA hB hU
    have b1 := hB.1
    have a1 := hA.1
    rw [mX8_way_36, ckI (n := 6) hb (by omega), nI_cl (n := b) (by omega), hB.2.1]
    by_cases z : i < B.length
    · have w := wB.1 i z
      have w1 := w.1; have w2 := w.2.1; have w3 := w.2.2.1
      obtain ⟨e1, e2, e3⟩ := hB.2.2 i z
      rw [if_neg (nI_ge z (by omega)), nmd, ix64, ckJ hb (by omega), ckJ hb (by omega), nI_cl (by omega), e1, e2]
      have keep : ¬ ((bk B i).2.1 = n ∧ ¬ hasL A (bk B i)) → ∃ M', mX8_way_36 k f M (nI a) (nI b) (nI n) (nI (i + 1)) = k M' (nI a) (nI b) (nI n - 1) ∧ wKR M M' ∧ M'.1 0 21 = M.1 0 21 ∧ stR M' (U0 ++ sel (fun q => ¬ hasL A q) B n B.length) [] := by
        intro q
        refine ih (i + 1) M (by omega) (by omega) hA hB ?_
        rw [sel, if_neg (by rw [dB_f q]; simp), List.append_nil]
        exact hU
      have put : (bk B i).2.1 = n → ¬ hasL A (bk B i) → ∃ M', mX8_way_116 k (mX8_way_36 k f) M (nI a) (nI b) (nI n) (nI i) (nI (64 * b + i)) = k M' (nI a) (nI b) (nI n - 1) ∧ wKR M M' ∧ M'.1 0 21 = M.1 0 21 ∧ stR M' (U0 ++ sel (fun q => ¬ hasL A q) B n B.length) [] := by
        intro c d
        have room : (U0 ++ sel (fun q => ¬ hasL A q) B n i).length < 64 := by
          have m1 := sel_mono (fun q => ¬ hasL A q) B n (m := i + 1) (m2 := B.length) (by omega)
          rw [sel, if_pos (dB_t ⟨c, d⟩), List.length_append] at m1
          rw [List.length_append] at hlen ⊢
          simp at m1
          omega
        rw [mX8_way_116, ckJ hb (by omega), ckJ hb (by omega), nI_cl (by omega), e1, e3, r_step (k := (U0 ++ sel (fun q => ¬ hasL A q) B n i).length) (by omega) hU.1, Option.bind_some, nmd, nI_1, ← c]
        have sp := st_put (q := bk B i) hU
        obtain ⟨M', g1, g2, g3, g4⟩ := ih (i + 1) (wst M (U0 ++ sel (fun q => ¬ hasL A q) B n i).length 1 (lN (bk B i).1) (nI (bk B i).2.1) (nI (bk B i).2.2)) (by omega) (by omega) (hA.wk wst_wK) (hB.wk wst_wK) (by
          rw [sel, if_pos (dB_t ⟨c, d⟩), ← List.append_assoc]
          exact sp)
        rw [← c] at g1 g2 g3 g4
        exact ⟨M', g1, wst_wK.tr g2, by rw [g3, (wst_at 0).2.2.2.2.2], g4⟩
      rcases r_at ha hA (lN (bk B i).1) (nI (bk B i).2.1) with ⟨j, f1, f2, f3, f4⟩ | ⟨f1, f2⟩
      · have wj := wA.1 j f2
        have wj1 := wj.1; have wj2 := wj.2.1; have wj3 := wj.2.2.1
        have z1 := (lN_inj (by omega) (by omega)).mp f3
        have z2 := (nI_inj (by omega) (by omega)).mp f4
        rw [f1, Option.bind_some, ckJ hb (by omega)]
        by_cases c : (bk B i).2.1 = n
        · rw [if_pos (by rw [c]), if_neg (nI_m1 (by omega)), ix64, ckJ ha (by omega), ckJ hb (by omega), nI_cl (by omega), (hA.2.2 j f2).2.2, e3]
          by_cases d : (bk A j).2.2 = (bk B i).2.2
          · rw [if_pos (by rw [d]), nmd, nI_1]
            exact keep (fun q => q.2 ⟨j, f2, Prod.ext z1 (Prod.ext z2 d)⟩)
          · rw [if_neg (fun q => d ((nI_inj (by omega) (by omega)).mp q))]
            refine put c ?_
            rintro ⟨m, m1, m2⟩
            have : m = j := wf_same wA m1 f2 ⟨by rw [m2, z1], by rw [m2, z2]⟩
            subst this
            exact d (by rw [m2])
        · rw [if_neg (fun q => c ((nI_inj (by omega) (by omega)).mp q)), nmd, nI_1]
          exact keep (fun q => c q.1)
      · rw [f1, Option.bind_some, ckJ hb (by omega)]
        by_cases c : (bk B i).2.1 = n
        · rw [if_pos (by rw [c]), if_pos rfl]
          refine put c ?_
          rintro ⟨m, m1, m2⟩
          exact f2 m m1 ⟨by rw [m2], by rw [m2]⟩
        · rw [if_neg (fun q => c ((nI_inj (by omega) (by omega)).mp q)), nmd, nI_1]
          exact keep (fun q => c q.1)
    · have e : i = B.length := by omega
      subst e
      rw [if_pos (nI_le (Nat.le_refl _) (by omega)), nmd, i32_m1]
      exact ⟨M, rfl, wKR.rf, rfl, hU⟩
theorem r_drops_loop {a b n : Nat} {A B U V0 : List L3} (ha : a < 6) (hb : b < 6) (wA : wfB A) (wB : wfB B) (hn : n ≤ 32) (hlen : U.length + (V0 ++ sel (fun q => ¬ hasB B q) A n A.length).length ≤ 128) (k : gMem → Int32 → Int32 → Int32 → Option (Int32 × gMem)) : ∀ f i (M : gMem), i ≤ A.length → A.length - i < f → RB M a A → RB M b B → stR M U (V0 ++ sel (fun q => ¬ hasB B q) A n i) → ∃ M', mX8_way_159 k f M (nI a) (nI b) (nI n) (nI i) = k M' (nI a) (nI b) (nI (n + 1)) ∧ wKR M M' ∧ M'.1 0 21 = M.1 0 21 ∧ stR M' U (V0 ++ sel (fun q => ¬ hasB B q) A n A.length) := by
  intro f
  induction f with
  | zero => intro i M _ h; omega
  | succ f ih =>
    intro i M hi hf hA hB hU
    have b1 := hB.1
    have a1 := hA.1
    rw [mX8_way_159, ckI (n := 6) ha (by omega), nI_cl (n := a) (by omega), hA.2.1]
    by_cases z : i < A.length
    · have w := wA.1 i z
      have w1 := w.1; have w2 := w.2.1; have w3 := w.2.2.1
      obtain ⟨e1, e2, e3⟩ := hA.2.2 i z
      rw [if_neg (nI_ge z (by omega)), nmd, ix64, ckJ ha (by omega), nI_cl (by omega), e2]
      have keep : ¬ ((bk A i).2.1 = n ∧ ¬ hasB B (bk A i)) → ∃ M', mX8_way_159 k f M (nI a) (nI b) (nI n) (nI (i + 1)) = k M' (nI a) (nI b) (nI (n + 1)) ∧ wKR M M' ∧ M'.1 0 21 = M.1 0 21 ∧ stR M' U (V0 ++ sel (fun q => ¬ hasB B q) A n A.length) := by
        intro q
        refine ih (i + 1) M (by omega) (by omega) hA hB ?_
        rw [sel, if_neg (by rw [dB_f q]; simp), List.append_nil]
        exact hU
      by_cases c : (bk A i).2.1 = n
      · rw [if_pos (by rw [c]), ckJ ha (by omega), e1]
        rcases r_at hb hB (lN (bk A i).1) (nI n) with ⟨j, f1, f2, f3, f4⟩ | ⟨f1, f2⟩
        · have wj := wB.1 j f2
          have wj1 := wj.1; have wj2 := wj.2.1
          have z1 := (lN_inj (by omega) (by omega)).mp f3
          have z2 := (nI_inj (by omega) (by omega)).mp f4
          rw [f1, Option.bind_some, if_neg (nI_m1 (by omega)), nmd, nI_1]
          exact keep (fun q => q.2 ⟨j, f2, z1, by omega⟩)
        · have d : ¬ hasB B (bk A i) := by
            rintro ⟨m, m1, m2, m3⟩
            exact f2 m m1 ⟨by rw [m2], by rw [m3, c]⟩
          have room : U.length + (V0 ++ sel (fun q => ¬ hasB B q) A n i).length < 128 := by
            have m1 := sel_mono (fun q => ¬ hasB B q) A n (m := i + 1) (m2 := A.length) (by omega)
            rw [sel, if_pos (dB_t ⟨c, d⟩), List.length_append] at m1
            rw [List.length_append] at hlen ⊢
            simp at m1
            omega
          rw [f1, Option.bind_some, if_pos rfl, ckJ ha (by omega), ckJ ha (by omega), e3, r_step (k := U.length + (V0 ++ sel (fun q => ¬ hasB B q) A n i).length) room hU.1, Option.bind_some, nmd, nI_1, ← c]
          have sp := st_drop (q := bk A i) hU
          obtain ⟨M', g1, g2, g3, g4⟩ := ih (i + 1) (wst M (U.length + (V0 ++ sel (fun q => ¬ hasB B q) A n i).length) 0 (lN (bk A i).1) (nI (bk A i).2.1) (nI (bk A i).2.2)) (by omega) (by omega) (hA.wk wst_wK) (hB.wk wst_wK) (by
            rw [sel, if_pos (dB_t ⟨c, d⟩), ← List.append_assoc]
            exact sp)
          rw [← c] at g1 g2 g3 g4
          exact ⟨M', g1, wst_wK.tr g2, by rw [g3, (wst_at 0).2.2.2.2.2], g4⟩
      · rw [if_neg (fun q => c ((nI_inj (by omega) (by omega)).mp q)), nmd, nI_1]
        exact keep (fun q => c q.1)
    · have e : i = A.length := by omega
      subst e
      rw [if_pos (nI_le (Nat.le_refl _) (by omega)), nmd, nI_1]
      exact ⟨M, rfl, wKR.rf, rfl, hU⟩
