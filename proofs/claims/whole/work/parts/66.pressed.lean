/-! the pressed tree: as many nodes there as here -/
theorem pre_iff {x y n : Nat} : pre x n = pre y n ↔ x / 2 ^ (32 - n) = y / 2 ^ (32 - n) :=
  ⟨fun h => by have := congrArg (· / 2 ^ (32 - n)) h; simp only [pre_div] at this; exact this, fun h => by unfold pre; rw [h]⟩
/-- where two LINES part, by bits -/
def par (B : List L3) (i j : Nat) (q : P2) : Prop := ∃ n, n < (bk B i).2.1 ∧ n < (bk B j).2.1 ∧ pre (bk B i).1 n = pre (bk B j).1 n ∧ pre (bk B i).1 (n + 1) ≠ pre (bk B j).1 (n + 1) ∧ q = (pre (bk B i).1 n, n)
theorem r_pressed_62 {b : Nat} {B : List L3} (hb : b < 6) (hw : wfB B) {i j : Nat} (hi : i < B.length) (hj : j < B.length) (k8 : gMem → Int32 → Int32 → Option gMem) (k44 : gMem → Int32 → Int32 → Int32 → Int32 → Option gMem) {M : gMem} {S : List P2} (hR : RB M b B) (hS : SN M S) (nd : S.Nodup) (hl : S.length < 2200) : ∀ f n, n ≤ (bk B i).2.1 → n ≤ (bk B j).2.1 → 32 - n < f → pre (bk B i).1 n = pre (bk B j).1 n → ∃ M' S', mX8_pressed_62 k8 k44 f M (nI b) (nI i) (nI (64 * b + i)) (nI j) (nI (64 * b + j)) (nI n) = k44 M' (nI b) (nI i) (nI (64 * b + i)) (nI (j + 1)) ∧ SN M' S' ∧ S'.Nodup ∧ S'.length ≤ S.length + 1 ∧ (∀ q, q ∈ S' ↔ q ∈ S ∨ par B i j q) ∧ RK M M' := by
  have wi := hw.1 i hi
  have wj := hw.1 j hj
  have wi1 := wi.1; have wi2 := wi.2.1
  have wj1 := wj.1; have wj2 := wj.2.1
  have l64 := hR.1
  obtain ⟨e1, e2, e3⟩ := hR.2.2 i hi
  obtain ⟨d1, d2, d3⟩ := hR.2.2 j hj
  intro f
  induction f with
  | zero => intro n _ _ h; omega
  | succ f ih =>
    intro n n1 n2 hf he
    have nopar : ((bk B i).2.1 ≤ n ∨ (bk B j).2.1 ≤ n) → ∀ q, q ∈ S ↔ q ∈ S ∨ par B i j q := by
      intro c q
      refine ⟨Or.inl, fun z => z.elim id ?_⟩
      rintro ⟨m, m1, m2, m3, m4, m5⟩
      exact absurd (pre_eq_mono (show m + 1 ≤ n by omega) (by omega) he) m4
    rw [mX8_pressed_62, ckJ hb (by omega), nI_cl (by omega), e2]
    by_cases c1 : (bk B i).2.1 ≤ n
    · rw [if_pos (nI_le c1 (by omega)), mX8_pressed_114, ckJ hb (by omega), nI_cl (by omega), e2, if_pos (nI_le c1 (by omega)), nmd, nI_1]
      exact ⟨M, S, rfl, hS, nd, by omega, nopar (Or.inl c1), RK.rf⟩
    · rw [if_neg (nI_ge (by omega) (by omega)), ckJ hb (by omega), nI_cl (by omega), d2]
      by_cases c2 : (bk B j).2.1 ≤ n
      · rw [if_pos (nI_le c2 (by omega)), mX8_pressed_114, ckJ hb (by omega), nI_cl (by omega), e2, if_neg (nI_ge (by omega) (by omega)), ckJ hb (by omega), nI_cl (by omega), d2, if_pos (nI_le c2 (by omega)), nmd, nI_1]
        exact ⟨M, S, rfl, hS, nd, by omega, nopar (Or.inr c2), RK.rf⟩
      · rw [if_neg (nI_ge (by omega) (by omega)), ckJ hb (by omega), ckJ hb (by omega), e1, d1, nI_1, r_begins wi1 wj1 (by omega), Option.bind_some]
        by_cases c3 : (bk B i).1 / 2 ^ (32 - (n + 1)) = (bk B j).1 / 2 ^ (32 - (n + 1))
        · rw [if_pos c3, if_neg one_ne, nmd]
          exact ih (n + 1) (by omega) (by omega) (by omega) (pre_iff.mpr c3)
        · have p := pw_pos (32 - n)
          have p' := pw_le (show 32 - n ≤ 32 by omega)
          rw [if_neg c3, if_pos rfl, mX8_pressed_114, ckJ hb (by omega), nI_cl (by omega), e2, if_neg (nI_ge (by omega) (by omega)), ckJ hb (by omega), nI_cl (by omega), d2, if_neg (nI_ge (by omega) (by omega)), ckJ hb (by omega), r_size (by omega), Option.bind_some, ckL p (by omega), Option.bind_some, e1, r_pre wi1 (by omega)]
          obtain ⟨M1, f1, f2, f3⟩ := r_counts hS hl (pre_lt' (n := n) wi1) (show n ≤ 32 by omega)
          rw [f1, Option.bind_some, nmd, nI_1]
          refine ⟨M1, _, rfl, f2, addC_nd nd, addC_len, fun q => ?_, f3⟩
          rw [addC_mem]
          constructor
          · rintro (z | z)
            · exact Or.inl z
            · exact Or.inr ⟨n, by omega, by omega, he, fun x => c3 (pre_iff.mp x), z⟩
          · rintro (z | ⟨m, m1, m2, m3, m4, m5⟩)
            · exact Or.inl z
            · have : m = n := by
                rcases Nat.lt_trichotomy m n with x | x | x
                · exact absurd (pre_eq_mono (show m + 1 ≤ n by omega) (by omega) he) m4
                · exact x
                · exact absurd (pre_eq_mono (show n + 1 ≤ m by omega) (by omega) m3) (fun x => c3 (pre_iff.mp x))
              subst this
              exact Or.inr m5
theorem r_pressed_44 {b : Nat} {B : List L3} (hb : b < 6) (hw : wfB B) {i : Nat} (hi : i < B.length) (k8 : gMem → Int32 → Int32 → Option gMem) : ∀ f j (M : gMem) (S : List P2), j ≤ i → i - j < f → RB M b B → SN M S → S.Nodup → S.length + (i - j) < 2200 → ∃ M' S', mX8_pressed_44 k8 f M (nI b) (nI i) (nI (64 * b + i)) (nI j) = k8 M' (nI b) (nI (i + 1)) ∧ SN M' S' ∧ S'.Nodup ∧ S'.length ≤ S.length + (i - j) ∧ (∀ q, q ∈ S' ↔ q ∈ S ∨ ∃ v, j ≤ v ∧ v < i ∧ par B i v q) ∧ RK M M' := by
  have hfu := FU_big
  intro f
  induction f with
  | zero => intro j M S _ h; omega
  | succ f ih =>
    intro j M S hj hf hR hS nd hl
    have l64 := hR.1
    rw [mX8_pressed_44]
    by_cases z : j < i
    · rw [if_neg (nI_ge z (by omega)), nmd, ix64]
      obtain ⟨M1, S1, a1, a2, a3, a4, a5, a6⟩ := r_pressed_62 hb hw hi (show j < B.length by omega) k8 (mX8_pressed_44 k8 f) hR hS nd (by omega) FU 0 (by omega) (by omega) (by omega) (by rw [pre_zero (hw.1 i hi).1, pre_zero (hw.1 j (by omega)).1])
      have a1' : mX8_pressed_62 k8 (mX8_pressed_44 k8 f) FU M (nI b) (nI i) (nI (64 * b + i)) (nI j) (nI (64 * b + j)) 0 = _ := a1
      rw [a1']
      obtain ⟨M2, S2, b1, b2, b3, b4, b5, b6⟩ := ih (j + 1) M1 S1 (by omega) (by omega) (hR.rk a6) a2 a3 (by omega)
      refine ⟨M2, S2, b1, b2, b3, by omega, fun q => ?_, a6.tr b6⟩
      rw [b5, a5]
      constructor
      · rintro ((x | x) | ⟨v, v1, v2, v3⟩)
        · exact Or.inl x
        · exact Or.inr ⟨j, Nat.le_refl _, z, x⟩
        · exact Or.inr ⟨v, by omega, v2, v3⟩
      · rintro (x | ⟨v, v1, v2, v3⟩)
        · exact Or.inl (Or.inl x)
        · by_cases e : v = j
          · subst e; exact Or.inl (Or.inr v3)
          · exact Or.inr ⟨v, by omega, v2, v3⟩
    · rw [if_pos (nI_le (by omega) (by omega)), nmd, nI_1]
      exact ⟨M, S, rfl, hS, nd, by omega, fun q => ⟨Or.inl, fun x => x.elim id (fun ⟨v, v1, v2, _⟩ => by omega)⟩, RK.rf⟩
def prL (B : List L3) (u : Nat) (q : P2) : Prop := q = ((bk B u).1, (bk B u).2.1) ∨ ∃ v, v < u ∧ par B u v q
theorem r_pressed_8 {b : Nat} {B : List L3} (hb : b < 6) (hw : wfB B) : ∀ f i (M : gMem) (S : List P2), i ≤ B.length → B.length - i < f → RB M b B → SN M S → S.Nodup → 2 * S.length ≤ 2 + i * (i + 1) → ∃ M' S', mX8_pressed_8 f M (nI b) (nI i) = some M' ∧ SN M' S' ∧ S'.Nodup ∧ S'.length ≤ 2200 ∧ (∀ q, q ∈ S' ↔ q ∈ S ∨ ∃ u, i ≤ u ∧ u < B.length ∧ prL B u q) ∧ RK M M' := by
  have hfu := FU_big
  intro f
  induction f with
  | zero => intro i M S _ h; omega
  | succ f ih =>
    intro i M S hi hf hR hS nd hl
    have l64 := hR.1
    have m64 : i * (i + 1) ≤ 64 * 65 := Nat.mul_le_mul (by omega) (by omega)
    rw [mX8_pressed_8, ckI (n := 6) hb (by omega), nI_cl (by omega), hR.2.1]
    by_cases z : i < B.length
    · have w := hw.1 i z
      obtain ⟨e1, e2, e3⟩ := hR.2.2 i z
      have m63 : i * (i + 1) ≤ 63 * 64 := Nat.mul_le_mul (by omega) (by omega)
      rw [if_neg (nI_ge z (by omega)), nmd, ix64, ckJ hb (by omega), ckJ hb (by omega), nI_cl (by omega), e1, e2]
      obtain ⟨M1, f1, f2, f3⟩ := r_counts hS (by omega) w.1 w.2.1
      have al := @addC_len S ((bk B i).1, (bk B i).2.1)
      rw [f1, Option.bind_some]
      obtain ⟨M2, S2, b1, b2, b3, b4, b5, b6⟩ := r_pressed_44 hb hw z (mX8_pressed_8 f) FU 0 M1 _ (Nat.zero_le _) (by omega) (hR.rk f3) f2 (addC_nd nd) (by omega)
      have b1' : mX8_pressed_44 (mX8_pressed_8 f) FU M1 (nI b) (nI i) (nI (64 * b + i)) 0 = _ := b1
      have e : (i + 1) * (i + 1 + 1) = i * (i + 1) + 2 * (i + 1) := by rw [Nat.mul_comm i (i + 1), Nat.mul_comm 2, ← Nat.mul_add]
      obtain ⟨M3, S3, c1, c2, c3, c4, c5, c6⟩ := ih (i + 1) M2 S2 (by omega) (by omega) ((hR.rk f3).rk b6) b2 b3 (by omega)
      rw [b1', c1]
      refine ⟨M3, S3, rfl, c2, c3, c4, fun q => ?_, (f3.tr b6).tr c6⟩
      rw [c5, b5, addC_mem]
      constructor
      · rintro (((x | x) | ⟨v, _, v2, v3⟩) | ⟨u, u1, u2, u3⟩)
        · exact Or.inl x
        · exact Or.inr ⟨i, Nat.le_refl _, z, Or.inl x⟩
        · exact Or.inr ⟨i, Nat.le_refl _, z, Or.inr ⟨v, v2, v3⟩⟩
        · exact Or.inr ⟨u, by omega, u2, u3⟩
      · rintro (x | ⟨u, u1, u2, u3⟩)
        · exact Or.inl (Or.inl (Or.inl x))
        · by_cases eu : u = i
          · subst eu
            rcases u3 with y | ⟨v, v1, v2⟩
            · exact Or.inl (Or.inl (Or.inr y))
            · exact Or.inl (Or.inr ⟨v, Nat.zero_le _, v1, v2⟩)
          · exact Or.inr ⟨u, by omega, u2, u3⟩
    · rw [if_pos (nI_le (by omega) (by omega))]
      exact ⟨M, S, rfl, hS, nd, by omega, fun q => ⟨Or.inl, fun x => x.elim id (fun ⟨u, u1, u2, _⟩ => by omega)⟩, RK.rf⟩
theorem r_pressed {M : gMem} {b : Nat} {B : List L3} (hb : b < 6) (hw : wfB B) (hR : RB M b B) : ∃ M' S, mX8_pressed (sI M 0 31 0) (nI b) = some M' ∧ SN M' S ∧ S.Nodup ∧ S.length ≤ 2200 ∧ (∀ q, q ∈ S ↔ q = (0, 0) ∨ ∃ u, u < B.length ∧ prL B u q) ∧ RK M M' := by
  have hfu := FU_big
  have l64 := hR.1
  have r0 : RK M (sI M 0 31 0) := sI0_RK (by omega)
  have s0 : SN (sI M 0 31 0) [] := ⟨by rw [sI1, if_pos ⟨rfl, rfl⟩]; rfl, fun i hi => absurd hi (by simp), fun q hq => absurd hq (by simp)⟩
  rw [mX8_pressed]
  obtain ⟨M1, f1, f2, f3⟩ := r_counts s0 (by simp) (p := 0) (n := 0) (by omega) (by omega)
  have f1' : mX8_counts (sI M 0 31 0) 0 0 = some M1 := f1
  rw [f1', Option.bind_some]
  obtain ⟨M2, S2, k1, k2, k3, k4, k5, k6⟩ := r_pressed_8 hb hw FU 0 M1 _ (by omega) (by omega) ((hR.rk r0).rk f3) f2 (addC_nd (by simp)) (by
    have := @addC_len [] ((0, 0) : P2)
    simp only [List.length_nil] at this
    omega)
  have k1' : mX8_pressed_8 FU M1 (nI b) 0 = _ := k1
  refine ⟨M2, S2, k1', k2, k3, k4, fun q => ?_, (r0.tr f3).tr k6⟩
  rw [k5, addC_mem]
  constructor
  · rintro ((x | x) | ⟨u, _, u2, u3⟩)
    · simp at x
    · exact Or.inl x
    · exact Or.inr ⟨u, u2, u3⟩
  · rintro (x | ⟨u, u2, u3⟩)
    · exact Or.inl (Or.inr x)
    · exact Or.inr ⟨u, Nat.zero_le _, u2, u3⟩
theorem mee_par {B : List L3} (hw : wfB B) {v u : Nat} (vu : v < u) (hu : u < B.length) {p k : Nat} : mee B v u (p, k) ↔ k ≤ 32 ∧ par B u v (p, 32 - k) := by
  have wu := hw.1 u hu
  have wv := hw.1 v (by omega)
  have u1 := wu.1; have u2 := wu.2.1
  have v1 := wv.1; have v2 := wv.2.1
  constructor
  · rintro ⟨K, h1, h2, h3, h4, h5, h6, h7, h8⟩
    simp only at h1 h2 h3 h4 h5 h6
    subst h1
    have p2 := pw_succ K
    have K31 : K ≤ 31 := by
      rcases Nat.lt_or_ge K 32 with c | c
      · omega
      · have := Nat.pow_le_pow_right (show 0 < 2 by omega) c
        omega
    have n1 : 32 - (32 - (K + 1)) = K + 1 := by omega
    have n2 : 32 - (32 - (K + 1) + 1) = K := by omega
    have eu : pre (bk B u).1 (32 - (K + 1)) = p := by unfold pre; rw [n1]; exact div_al h2 (by omega) h6
    have ev : pre (bk B v).1 (32 - (K + 1)) = p := by unfold pre; rw [n1]; exact div_al h2 h3 (by omega)
    refine ⟨by omega, 32 - (K + 1), by omega, by omega, by rw [eu, ev], ?_, by rw [eu]⟩
    have eu' : pre (bk B u).1 (32 - (K + 1) + 1) = p + 2 ^ K := by unfold pre; rw [n2]; exact div_al (al_half h2).2 h5 (by omega)
    have ev' : pre (bk B v).1 (32 - (K + 1) + 1) = p := by unfold pre; rw [n2]; exact div_al (al_half h2).1 h3 h4
    rw [eu', ev']
    have := pw_pos K
    omega
  · rintro ⟨hk, n, n1, n2, n3, n4, n5⟩
    have e2 : 32 - k = n := congrArg Prod.snd n5
    have e1 : p = pre (bk B u).1 n := congrArg Prod.fst n5
    have le := wf_mono hw (show v ≤ u by omega) hu
    have m1 : 32 - n = (31 - n) + 1 := by omega
    have m2 : 32 - (n + 1) = 31 - n := by omega
    generalize hK : 31 - n = K at m1 m2
    have p2 := pw_succ K
    have du := div_in (bk B u).1 (K + 1)
    have dv := div_in (bk B v).1 (K + 1)
    have fu : (bk B u).1 / 2 ^ (K + 1) * 2 ^ (K + 1) = p := by rw [e1]; unfold pre; rw [m1]
    have fv : (bk B v).1 / 2 ^ (K + 1) * 2 ^ (K + 1) = p := by rw [e1, n3]; unfold pre; rw [m1]
    have al : p % 2 ^ (K + 1) = 0 := by rw [← fu]; exact Nat.mul_mod_left _ _
    rw [fu] at du
    rw [fv] at dv
    unfold pre at n4
    rw [m2] at n4
    refine ⟨K, by show k = K + 1; omega, al, dv.1, ?_, ?_, du.2, by omega, by omega⟩
    · show (bk B v).1 < p + 2 ^ K
      rcases Nat.lt_or_ge (bk B v).1 (p + 2 ^ K) with c | c
      · exact c
      · exact absurd ((div_al (al_half al).2 (by omega) (by omega)).trans (div_al (al_half al).2 c (by omega)).symm) n4
    · show p + 2 ^ K ≤ (bk B u).1
      rcases Nat.lt_or_ge (bk B u).1 (p + 2 ^ K) with c | c
      · exact absurd ((div_al (al_half al).1 du.1 c).trans (div_al (al_half al).1 dv.1 (by omega)).symm) n4
      · exact c
theorem pressed_len {B : List L3} (hw : wfB B) {Ns S : List P2} (n1 : Ns.Nodup) (n2 : S.Nodup) (s32 : ∀ q, q ∈ S → q.2 ≤ 32) (h1 : ∀ q, q ∈ Ns ↔ (q = (0, 32) ∨ lnM B 0 B.length q)) (h2 : ∀ q, q ∈ S ↔ q = (0, 0) ∨ ∃ u, u < B.length ∧ prL B u q) : Ns.length = S.length := by
  have nd : (S.map (fun q : P2 => ((q.1, 32 - q.2) : P2))).Nodup := by
    rw [List.Nodup, List.pairwise_map]
    refine List.Pairwise.imp_of_mem ?_ n2
    intro a b ha hb ne e
    have x1 : a.1 = b.1 := (Prod.mk.inj e).1
    have x2 : 32 - a.2 = 32 - b.2 := (Prod.mk.inj e).2
    have y1 := s32 a ha
    have y2 := s32 b hb
    exact ne (Prod.ext x1 (by omega))
  rw [← List.length_map (as := S) (f := fun q : P2 => ((q.1, 32 - q.2) : P2))]
  refine nd_eq n1 nd (fun q => ?_)
  rw [h1, List.mem_map]
  constructor
  · rintro (z | ⟨i, i1, i2, z⟩ | ⟨i, j, i1, i2, i3, z⟩)
    · exact ⟨(0, 0), (h2 _).mpr (Or.inl rfl), z.symm⟩
    · have w := (hw.1 i i2).2.1
      exact ⟨((bk B i).1, (bk B i).2.1), (h2 _).mpr (Or.inr ⟨i, i2, Or.inl rfl⟩), z.symm⟩
    · obtain ⟨p, k⟩ := q
      obtain ⟨k1, k2⟩ := (mee_par hw i2 i3).mp z
      exact ⟨(p, 32 - k), (h2 _).mpr (Or.inr ⟨j, i3, Or.inr ⟨i, i2, k2⟩⟩), Prod.ext rfl (show 32 - (32 - k) = k by omega)⟩
  · rintro ⟨⟨p, n⟩, a, rfl⟩
    have n32 := s32 _ a
    simp only at n32
    rcases (h2 _).mp a with z | ⟨u, u1, z | ⟨v, v1, z⟩⟩
    · have x1 : p = 0 := congrArg Prod.fst z
      have x2 : n = 0 := congrArg Prod.snd z
      subst x1; subst x2; exact Or.inl rfl
    · have x1 : p = _ := congrArg Prod.fst z
      have x2 : n = _ := congrArg Prod.snd z
      exact Or.inr (Or.inl ⟨u, Nat.zero_le _, u1, by show (p, 32 - n) = _; rw [x1, x2]⟩)
    · refine Or.inr (Or.inr ⟨v, u, Nat.zero_le _, v1, u1, (mee_par hw v1 u1).mpr ⟨by omega, ?_⟩⟩)
      rw [show 32 - (32 - n) = n by omega]; exact z
theorem op_nodes {MC MR : gMem} (h : Inv MC MR) (x1 x2 : Int32) : ∃ r MC' MR', mX7_nodes MC x1 x2 = some (r, MC') ∧ mX8_nodes MR x1 x2 = some (r, MR') ∧ Inv MC' MR' := by
  rcases book_cases x1 with ⟨b, h6, rfl, e1, e2⟩ | ⟨e1, e2⟩
  rotate_left
  · rw [mX7_nodes, mX8_nodes, e1, e2, Option.bind_some, Option.bind_some, if_pos rfl, if_pos rfl]; exact ⟨_, _, _, rfl, rfl, h⟩
  by_cases c : x2 = 0
  rotate_left
  · exact nodes_rest h h6 c
  subst c
  obtain ⟨bks, hb, h26, h30, hc⟩ := id h
  have hL := hb.1 b h6
  have hw := hb.2.2 b h6
  have l64 := (hb.2.1 b h6).1
  obtain ⟨M', S, f1, f2, f3, f4, f5, f6⟩ := r_pressed h6 hw (hb.2.1 b h6)
  obtain ⟨M1, e, Ns, g1, g2, g3, g4, g5, g6, g7, g8, g9⟩ := m_plantWhole (by omega) hL hw (by omega)
  rw [mX7_nodes, mX8_nodes, e1, e2, Option.bind_some, Option.bind_some, if_neg one_ne, if_neg one_ne, if_pos rfl, ckI (n := 6) h6 (by omega), nI_cl (by omega), g1, Option.bind_some, show mX8_lies 0 0 3 = some 1 by decide, Option.bind_some, if_neg one_ne, nmd, if_pos rfl, f1, Option.bind_some, g3, f2.1, ← g7, pressed_len hw g8 f3 (fun q hq => (f2.2.2 q hq).2) g9 f5]
  exact ⟨_, _, _, rfl, rfl, h.keep (Nat.le_refl _) (by omega) g2 f6⟩
