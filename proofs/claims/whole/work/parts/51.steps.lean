/-! steps; nodes by strides -/
def cntS (P : P2 → Bool) (S : List P2) : Nat → Nat
  | 0 => 0
  | k + 1 => cntS P S k + if P (ck2 S k) = true then 1 else 0
theorem cntS_app (P : P2 → Bool) (S T : List P2) : ∀ k, k ≤ S.length → cntS P (S ++ T) k = cntS P S k := by
  intro k
  induction k with
  | zero => intro _; rfl
  | succ k ih =>
    intro h
    rw [cntS, cntS, ih (by omega)]
    have : ck2 (S ++ T) k = ck2 S k := by
      unfold ck2
      rw [List.getD_eq_getElem?_getD, List.getElem?_append_left (by omega), List.getD_eq_getElem?_getD]
    rw [this]
theorem cntS_filter (P : P2 → Bool) (S : List P2) : cntS P S S.length = (S.filter P).length := by
  have key : ∀ n, ∀ S : List P2, S.length = n → cntS P S S.length = (S.filter P).length := by
    intro n
    induction n with
    | zero =>
      intro S h
      have e := List.length_eq_zero_iff.mp h
      subst e; rfl
    | succ n ih =>
      intro S h
      have ne : S ≠ [] := fun e => by rw [e] at h; simp at h
      have e := (List.dropLast_concat_getLast ne).symm
      generalize S.dropLast = T at e
      generalize S.getLast ne = q at e
      subst e
      have lT : T.length = n := by rw [List.length_append] at h; simp at h; omega
      rw [List.length_append, List.length_singleton, cntS, cntS_app P T [q] T.length (Nat.le_refl _), ih T lT, List.filter_append, List.length_append, ck2_app _ (Nat.le_refl _), if_neg (Nat.lt_irrefl _)]
      by_cases c : P q = true
      · rw [if_pos c]; simp [c]
      · rw [if_neg c]; simp [c]
  exact key _ S rfl
def atP (x : Nat) (q : P2) : Bool := decide (x / 2 ^ (32 - q.2) = q.1 / 2 ^ (32 - q.2))
theorem cntS_le (P : P2 → Bool) (S : List P2) : ∀ k, cntS P S k ≤ k := by
  intro k
  induction k with
  | zero => exact Nat.le_refl _
  | succ k ih => rw [cntS]; split <;> omega
theorem r_steps_loop {M : gMem} {S : List P2} (h : SN M S) (hl : S.length ≤ 400) {x : Nat} (hx : x < 4294967296) : ∀ f k, k ≤ S.length → S.length - k < f → mX8_steps_24 f M (nI x) (nI (cntS (atP x) S k)) (nI k) = some (nI (cntS (atP x) S S.length), M) := by
  obtain ⟨h1, h2, h3⟩ := h
  intro f
  induction f with
  | zero => intro k _ h; omega
  | succ f ih =>
    intro k hk hf
    rw [mX8_steps_24, h1]
    by_cases z : k < S.length
    · have w := h3 _ (ck2_mem z)
      have nx := ih (k + 1) (by omega) (by omega)
      rw [cntS] at nx
      rw [if_neg (nI_ge z (by omega)), r_number hx, Option.bind_some, ckI (by omega) (by omega), ckI (by omega) (by omega), nI_cl (by omega), (h2 k z).1, (h2 k z).2, r_begins hx w.1 w.2, Option.bind_some]
      by_cases c : x / 2 ^ (32 - (ck2 S k).2) = (ck2 S k).1 / 2 ^ (32 - (ck2 S k).2)
      · rw [if_pos c, if_neg one_ne, nmd, nmd, nI_1, nI_1]
        rw [if_pos (show atP x (ck2 S k) = true from decide_eq_true c)] at nx
        exact nx
      · rw [if_neg c, if_pos rfl, nmd, nmd, nI_1, show (0 : Int32) = nI 0 from rfl, nI_add]
        rw [if_neg (show ¬ atP x (ck2 S k) = true from fun q => c (of_decide_eq_true q))] at nx
        exact nx
    · rw [if_pos (nI_le (by omega) (by omega)), show k = S.length by omega]
theorem pre_div {x n : Nat} : pre x n / 2 ^ (32 - n) = x / 2 ^ (32 - n) := Nat.mul_div_cancel _ (pw_pos _)
theorem pre_pre {x m n : Nat} (h : m ≤ n) (hn : n ≤ 32) : pre (pre x n) m = pre x m := by
  unfold pre
  have e : 2 ^ (32 - m) = 2 ^ (32 - n) * 2 ^ (n - m) := by rw [← Nat.pow_add]; congr 1; omega
  rw [e, ← Nat.div_div_eq_div_mul, ← Nat.div_div_eq_div_mul, Nat.mul_div_cancel _ (pw_pos _)]
theorem pre_eq_mono {x y m n : Nat} (h : m ≤ n) (hn : n ≤ 32) (e : pre x n = pre y n) : pre x m = pre y m := by
  rw [← pre_pre h hn, e, pre_pre h hn]
theorem hN_mono {B : List L3} (x : Nat) {d e : Nat} (h : d ≤ e) (he : e ≤ 32) (hh : hN B x e) : hN B x d := by
  obtain ⟨j, j1, j2, j3⟩ := hh
  exact ⟨j, j1, by omega, pre_eq_mono h he j3⟩
noncomputable def hT (B : List L3) (x : Nat) : Nat → List P2
  | 0 => [(0, 0)]
  | t + 1 => if dB (hN B x (6 * (t + 1))) = true then hT B x t ++ [(pre x (6 * (t + 1)), 6 * (t + 1))] else hT B x t
theorem hT_mem {B : List L3} {x : Nat} {q : P2} : ∀ t, q ∈ hT B x t ↔ q = (0, 0) ∨ ∃ u, 1 ≤ u ∧ u ≤ t ∧ hN B x (6 * u) ∧ q = (pre x (6 * u), 6 * u) := by
  intro t
  induction t with
  | zero =>
    rw [hT, List.mem_singleton]
    exact ⟨Or.inl, fun z => z.elim id (fun ⟨u, z⟩ => by omega)⟩
  | succ t ih =>
    rw [hT]
    by_cases c : dB (hN B x (6 * (t + 1))) = true
    · rw [if_pos c, List.mem_append, ih, List.mem_singleton]
      constructor
      · rintro ((z | ⟨u, z⟩) | z)
        · exact Or.inl z
        · exact Or.inr ⟨u, z.1, by omega, z.2.2⟩
        · exact Or.inr ⟨t + 1, by omega, by omega, dB_iff.mp c, z⟩
      · rintro (z | ⟨u, z⟩)
        · exact Or.inl (Or.inl z)
        · by_cases e : u = t + 1
          · subst e; exact Or.inr z.2.2.2
          · exact Or.inl (Or.inr ⟨u, z.1, by omega, z.2.2⟩)
    · rw [if_neg c, ih]
      constructor
      · rintro (z | ⟨u, z⟩)
        · exact Or.inl z
        · exact Or.inr ⟨u, z.1, by omega, z.2.2⟩
      · rintro (z | ⟨u, z⟩)
        · exact Or.inl z
        · by_cases e : u = t + 1
          · subst e; exact absurd (dB_t z.2.2.1) c
          · exact Or.inr ⟨u, z.1, by omega, z.2.2⟩
theorem hT_nd {B : List L3} {x : Nat} : ∀ t, (hT B x t).Nodup := by
  intro t
  induction t with
  | zero => rw [hT]; simp
  | succ t ih =>
    rw [hT]
    by_cases c : dB (hN B x (6 * (t + 1))) = true
    · rw [if_pos c]
      refine app_nd ih (by simp) (fun q hq hr => ?_)
      rw [List.mem_singleton] at hr
      rcases (hT_mem t).mp hq with z | ⟨u, z⟩
      · rw [hr] at z; have := congrArg Prod.snd z; simp at this
      · have z2 := z.2.2.2; rw [hr] at z2; have := congrArg Prod.snd z2; simp at this; omega
    · rw [if_neg c]; exact ih
theorem hT_len {B : List L3} {x : Nat} : ∀ t, t ≤ 5 → (hT B x t).length = stN B x t := by
  have full : ∀ t, t ≤ 5 → (t = 0 ∨ hN B x (6 * t)) → (hT B x t).length = t + 1 := by
    intro t
    induction t with
    | zero => intro _ _; rfl
    | succ t ih =>
      intro h5 hh
      have h1 : hN B x (6 * (t + 1)) := hh.elim (fun z => by omega) id
      have := ih (by omega) (by
        by_cases e : t = 0
        · exact Or.inl e
        · exact Or.inr (hN_mono x (by omega) (by omega) h1))
      rw [hT, if_pos (dB_t h1), List.length_append, this]; rfl
  intro t
  induction t with
  | zero => intro _; rfl
  | succ t ih =>
    intro h5
    by_cases c : dB (hN B x (6 * (t + 1))) = true
    · rw [stN, if_pos c]; exact full (t + 1) h5 (Or.inr (dB_iff.mp c))
    · rw [stN, if_neg c, hT, if_neg c]; exact ih (by omega)
theorem steps_count {B : List L3} (hw : wfB B) {S : List P2} (nd : S.Nodup) (hm : ∀ q, q ∈ S ↔ chS B B.length 0 q) {x : Nat} (hx : x < 4294967296) : cntS (atP x) S S.length = stN B x 5 := by
  rw [cntS_filter, ← hT_len 5 (by omega)]
  refine nd_eq (nd.filter _) (hT_nd 5) (fun q => ?_)
  rw [List.mem_filter, hm, hT_mem]
  unfold chS
  constructor
  · rintro ⟨z | ⟨j, u, j1, u1, u2, z⟩ | ⟨u, z⟩, p⟩
    · exact Or.inl z
    · have w := (hw.1 j j1).2.1
      have p' : x / 2 ^ (32 - q.2) = q.1 / 2 ^ (32 - q.2) := of_decide_eq_true p
      rw [z] at p'
      have p2 : x / 2 ^ (32 - 6 * u) = pre (bk B j).1 (6 * u) / 2 ^ (32 - 6 * u) := p'
      rw [pre_div] at p2
      have p3 : pre (bk B j).1 (6 * u) = pre x (6 * u) := by unfold pre; rw [p2]
      exact Or.inr ⟨u, u1, by omega, ⟨j, j1, u2, p3⟩, by rw [← p3]; exact z⟩
    · omega
  · rintro (z | ⟨u, u1, u2, ⟨j, j1, j2, j3⟩, z⟩)
    · refine ⟨Or.inl z, ?_⟩
      rw [z]
      refine decide_eq_true ?_
      show x / 2 ^ (32 - 0) = 0 / 2 ^ (32 - 0)
      rw [Nat.zero_div]; exact Nat.div_eq_of_lt hx
    · refine ⟨Or.inr (Or.inl ⟨j, u, j1, u1, j2, by rw [j3]; exact z⟩), ?_⟩
      rw [z]
      refine decide_eq_true ?_
      show x / 2 ^ (32 - 6 * u) = pre x (6 * u) / 2 ^ (32 - 6 * u)
      rw [pre_div]
theorem Inv.rk {MC MR MR' : gMem} (h : Inv MC MR) (r : RK MR MR') : Inv MC MR' := by
  obtain ⟨bks, ⟨b1, b2, b3⟩, h26, h30, hc⟩ := h
  exact ⟨bks, ⟨b1, fun b hb => (b2 b hb).rk r, b3⟩, h26, h30, hc.keep SC.rf r.2⟩
theorem op_steps {MC MR : gMem} (h : Inv MC MR) (x1 x2 : Int32) : ∃ r MR', mX7_steps MC x1 x2 = some r ∧ mX8_steps MR x1 x2 = some (r, MR') ∧ Inv MC MR' := by
  have hfu := FU_big
  obtain ⟨bks, hb, h26, h30, hc⟩ := id h
  rw [mX7_steps, mX8_steps]
  rcases book_cases x1 with ⟨b, h6, rfl, e1, e2⟩ | ⟨e1, e2⟩
  rotate_left
  · rw [e1, e2, Option.bind_some, Option.bind_some, if_pos rfl, if_pos rfl]; exact ⟨_, _, rfl, rfl, h⟩
  rw [e1, e2, Option.bind_some, Option.bind_some, if_neg one_ne, if_neg one_ne]
  obtain ⟨x, hx, rfl⟩ := nI_all x2
  have hL := hb.1 b h6
  have hw := hb.2.2 b h6
  obtain ⟨M', S, f1, f2, f3, f4, f5, f6⟩ := r_strides h6 hw (hb.2.1 b h6)
  have a := r_steps_loop f2 f4 hx FU 0 (by omega) (by omega)
  have a' : mX8_steps_24 FU M' (nI x) 0 0 = _ := a
  rw [ckI (n := 6) h6 (by omega), nI_cl (by omega), m_stepsOf hL hw hx, Option.bind_some, nmd, f1, Option.bind_some, a', steps_count hw f3 f5 hx]
  exact ⟨_, _, rfl, rfl, h.rk f6⟩
/-- the deepest node with the least address -/
def isM (S : List P2) (k D A : Nat) : Prop := ((D, A) = (0, 0) ∨ ∃ j, j < k ∧ ck2 S j = (A, D)) ∧ ∀ j, j < k → (ck2 S j).2 < D ∨ ((ck2 S j).2 = D ∧ A ≤ (ck2 S j).1)
theorem r_nodes_loop {M : gMem} {S : List P2} (h : SN M S) (hl : S.length ≤ 400) (x2 : Int32) : ∀ f k D A, k ≤ S.length → S.length - k < f → D ≤ 32 → A < 4294967296 → isM S k D A → ∃ D' A', D' ≤ 32 ∧ A' < 4294967296 ∧ isM S S.length D' A' ∧ mX8_nodes_64 f M x2 (nI D) (lN A) (nI k) = if x2 = 2 then (ck (nz (6 : Int32)) <| some ((((nI D' / (6 : Int32)) + (1 : Int32)).toInt64), M)) else (some (lN A', M)) := by
  obtain ⟨h1, h2, h3⟩ := h
  intro f
  induction f with
  | zero => intro k D A _ h; omega
  | succ f ih =>
    intro k D A hk hf hD hA hM
    rw [mX8_nodes_64, h1]
    by_cases z : k < S.length
    · have w := h3 _ (ck2_mem z)
      have w1 := w.1; have w2 := w.2
      have skip : ((ck2 S k).2 < D ∨ ((ck2 S k).2 = D ∧ A ≤ (ck2 S k).1)) → isM S (k + 1) D A := by
        intro c
        refine ⟨hM.1.elim Or.inl (fun ⟨j, j1, j2⟩ => Or.inr ⟨j, by omega, j2⟩), fun j hj => ?_⟩
        by_cases e : j = k
        · rw [e]; exact c
        · exact hM.2 j (by omega)
      have take : (D < (ck2 S k).2 ∨ ((ck2 S k).2 = D ∧ (ck2 S k).1 < A)) → isM S (k + 1) (ck2 S k).2 (ck2 S k).1 := by
        intro c
        refine ⟨Or.inr ⟨k, by omega, rfl⟩, fun j hj => ?_⟩
        by_cases e : j = k
        · rw [e]; omega
        · have := hM.2 j (by omega); omega
      rw [if_neg (nI_ge z (by omega)), ckI (by omega) (by omega), nI_cl (by omega), (h2 k z).2]
      by_cases c1 : (ck2 S k).2 < D
      · rw [if_pos (nI_lt c1 (by omega)), nmd, nI_1]
        exact ih (k + 1) D A (by omega) (by omega) hD hA (skip (Or.inl c1))
      · rw [if_neg (nI_nlt (by omega) (by omega)), ckI (by omega) (by omega)]
        by_cases c2 : (ck2 S k).2 = D
        · rw [if_pos (by rw [c2]), ckI (by omega) (by omega), (h2 k z).1]
          by_cases c3 : (ck2 S k).1 < A
          · rw [if_pos ((lN_lt' (by omega) (by omega)).mpr c3), mX8_nodes_111, ckI (by omega) (by omega), nI_cl (by omega), (h2 k z).2, nmd, ckI (by omega) (by omega), (h2 k z).1, nmd, nmd, nI_1]
            exact ih (k + 1) _ _ (by omega) (by omega) w2 w1 (take (Or.inr ⟨c2, c3⟩))
          · rw [if_neg (fun q => c3 ((lN_lt' (by omega) (by omega)).mp q)), nmd, nI_1]
            exact ih (k + 1) D A (by omega) (by omega) hD hA (skip (Or.inr ⟨c2, by omega⟩))
        · rw [if_neg (fun q => c2 ((nI_inj (by omega) (by omega)).mp q)), mX8_nodes_111, ckI (by omega) (by omega), nI_cl (by omega), (h2 k z).2, nmd, ckI (by omega) (by omega), (h2 k z).1, nmd, nmd, nI_1]
          exact ih (k + 1) _ _ (by omega) (by omega) w2 w1 (take (Or.inl (by omega)))
    · have ek : k = S.length := by omega
      rw [if_pos (nI_le (by omega) (by omega))]
      exact ⟨D, A, hD, hA, ek ▸ hM, rfl⟩
theorem isM_class {B : List L3} (hw : wfB B) {S : List P2} (hm : ∀ q, q ∈ S ↔ chS B B.length 0 q) {D A t p : Nat} (hM : isM S S.length D A) (ht : isD B B.length t) (hp : (p = 0 ∧ ∀ j, j < B.length → (bk B j).2.1 ≤ 6 * t) ∨ ∃ i, i < B.length ∧ 6 * t < (bk B i).2.1 ∧ p = pre (bk B i).1 (6 * t) ∧ ∀ j, j < i → (bk B j).2.1 ≤ 6 * t) : D = 6 * t ∧ A = p := by
  obtain ⟨t1, t2, t3⟩ := ht
  have all : ∀ q, q ∈ S → q.2 < D ∨ (q.2 = D ∧ A ≤ q.1) := by
    intro q hq
    obtain ⟨j, j1, j2⟩ := mem_ck2 hq
    rw [← j2]; exact hM.2 j j1
  have mem : (A, D) ∈ S := by
    rcases hM.1 with q | ⟨j, j1, j2⟩
    · have a1 : D = 0 := congrArg Prod.fst q
      have a2 : A = 0 := congrArg Prod.snd q
      rw [a1, a2]; exact (hm _).mpr (Or.inl rfl)
    · rw [← j2]; exact ck2_mem j1
  have ge : 6 * t ≤ D := by
    rcases t2 with z | ⟨j, j1, j2⟩
    · omega
    · by_cases e : t = 0
      · omega
      · have := all _ ((hm (pre (bk B j).1 (6 * t), 6 * t)).mpr (Or.inr (Or.inl ⟨j, t, j1, by omega, j2, rfl⟩)))
        have x : (6 * t < D ∨ (6 * t = D ∧ A ≤ pre (bk B j).1 (6 * t))) := this
        omega
  have back := (hm _).mp mem
  have eD : D = 6 * t := by
    rcases back with z | ⟨j, u, j1, u1, u2, z⟩ | ⟨u, z⟩
    · have := congrArg Prod.snd z
      simp only at this; omega
    · have e := congrArg Prod.snd z
      simp only at e
      have w := (hw.1 j j1).2.1
      rcases t3 j j1 with y | y <;> omega
    · omega
  refine ⟨eD, ?_⟩
  by_cases e0 : t = 0
  · have eA : A = 0 := by
      rcases back with z | ⟨j, u, j1, u1, u2, z⟩ | ⟨u, z⟩
      · exact congrArg Prod.fst z
      · have e := congrArg Prod.snd z
        simp only at e; omega
      · omega
    rcases hp with ⟨z, _⟩ | ⟨i, i1, i2, i3, i4⟩
    · rw [eA, z]
    · rw [eA, i3, e0, pre_zero (hw.1 i i1).1]
  · rcases hp with ⟨z1, z2⟩ | ⟨i, i1, i2, i3, i4⟩
    · rcases t2 with z | ⟨j, j1, j2⟩
      · omega
      · have := z2 j j1; omega
    · have le : A ≤ p := by
        have := all _ ((hm (pre (bk B i).1 (6 * t), 6 * t)).mpr (Or.inr (Or.inl ⟨i, t, i1, by omega, i2, rfl⟩)))
        have x : (6 * t < D ∨ (6 * t = D ∧ A ≤ pre (bk B i).1 (6 * t))) := this
        omega
      have gr : p ≤ A := by
        rcases back with z | ⟨j, u, j1, u1, u2, z⟩ | ⟨u, z⟩
        · have := congrArg Prod.snd z
          simp only at this; omega
        · have e := congrArg Prod.snd z
          simp only at e
          have eu : u = t := by omega
          subst eu
          have ea : A = pre (bk B j).1 (6 * u) := congrArg Prod.fst z
          have ij : i ≤ j := by
            rcases Nat.lt_or_ge j i with q | q
            · have := i4 j q; omega
            · exact q
          rw [ea, i3]; exact pre_le (wf_mono hw ij j1)
        · omega
      omega
theorem nodes_rest {MC MR : gMem} (h : Inv MC MR) {b : Nat} (h6 : b < 6) {x2 : Int32} (h0 : ¬ x2 = 0) : ∃ r MC' MR', mX7_nodes MC (nI b) x2 = some (r, MC') ∧ mX8_nodes MR (nI b) x2 = some (r, MR') ∧ Inv MC' MR' := by
  have hfu := FU_big
  obtain ⟨bks, hb, h26, h30, hc⟩ := id h
  rw [mX7_nodes, mX8_nodes]
  have e12 : mX7_isBook (nI b) = some 1 ∧ mX8_isBook (nI b) = some 1 := by
    rcases (show b = 0 ∨ b = 1 ∨ b = 2 ∨ b = 3 ∨ b = 4 ∨ b = 5 by omega) with rfl | rfl | rfl | rfl | rfl | rfl <;> decide
  rw [e12.1, e12.2, Option.bind_some, Option.bind_some, if_neg one_ne, if_neg one_ne, if_neg h0]
  have hL := hb.1 b h6
  have hw := hb.2.2 b h6
  obtain ⟨M', S, f1, f2, f3, f4, f5, f6⟩ := r_strides h6 hw (hb.2.1 b h6)
  have h3 : ¬ (2 : Int32) = 1 := by decide
  have h31 : ¬ (3 : Int32) = 1 := by decide
  have h32 : ¬ (3 : Int32) = 2 := by decide
  by_cases c1 : x2 = 1
  · subst c1
    rw [if_pos rfl, ckI (n := 6) h6 (by omega), nI_cl (by omega), m_nodesOf hL hw f3 f5, Option.bind_some, show mX8_lies 1 0 3 = some 1 by decide, Option.bind_some, if_neg one_ne, nmd, if_neg one_ne, f1, Option.bind_some, if_pos rfl, f2.1]
    exact ⟨_, _, _, rfl, rfl, h.rk f6⟩
  rw [if_neg c1]
  by_cases c2 : x2 = 2
  · subst c2
    obtain ⟨t, t1, t2⟩ := m_deepest hL hw
    obtain ⟨t', p, p1, p2, p3⟩ := m_firstDeepest hL hw
    obtain ⟨D, A, d1, d2, d3, d4⟩ := r_nodes_loop f2 f4 2 FU 0 0 0 (by omega) (by omega) (by omega) (by omega) ⟨Or.inl rfl, fun j hj => by omega⟩
    have tt : t' = t := by
      have := p1
      rw [mX4_firstDeepest, t1, Option.bind_some] at this
      have a1 := (isM_class hw f5 d3 p2 p3).1
      obtain ⟨t21, t22, t23⟩ := t2
      obtain ⟨s1, s2, s3⟩ := p2
      rcases t22 with z | ⟨j, j1, j2⟩
      · rcases s2 with y | ⟨k, k1, k2⟩
        · omega
        · have := t23 k k1; omega
      · have := s3 j j1
        rcases s2 with y | ⟨k, k1, k2⟩
        · omega
        · have := t23 k k1; omega
    subst tt
    have eD := (isM_class hw f5 d3 p2 p3).1
    rw [if_pos rfl] at d4
    have d4' : mX8_nodes_64 FU M' 2 0 0 0 = _ := d4
    rw [if_pos rfl, ckI (n := 6) h6 (by omega), nI_cl (by omega), t1, Option.bind_some, m_down t2.1, Option.bind_some, show mX8_lies 2 0 3 = some 1 by decide, Option.bind_some, if_neg one_ne, nmd, if_neg h0, f1, Option.bind_some, if_neg h3, d4', eD, ck_t (show nz 6 = true by decide), show (6 : Int32) = nI 6 from rfl, pk_div (by have := t2.1; omega) (by omega) (by omega), show 6 * t' / 6 = t' by omega, nI_1]
    exact ⟨_, _, _, rfl, rfl, h.rk f6⟩
  rw [if_neg c2]
  by_cases c3 : x2 = 3
  · subst c3
    obtain ⟨t', p, p1, p2, p3⟩ := m_firstDeepest hL hw
    obtain ⟨D, A, d1, d2, d3, d4⟩ := r_nodes_loop f2 f4 3 FU 0 0 0 (by omega) (by omega) (by omega) (by omega) ⟨Or.inl rfl, fun j hj => by omega⟩
    have eA := (isM_class hw f5 d3 p2 p3).2
    rw [if_neg h32] at d4
    have d4' : mX8_nodes_64 FU M' 3 0 0 0 = _ := d4
    rw [if_pos rfl, ckI (n := 6) h6 (by omega), nI_cl (by omega), p1, Option.bind_some, show mX8_lies 3 0 3 = some 1 by decide, Option.bind_some, if_neg one_ne, nmd, if_neg h0, f1, Option.bind_some, if_neg h31, d4', eA]
    exact ⟨_, _, _, rfl, rfl, h.rk f6⟩
  rw [if_neg c3]
  rcases i32_range (x := x2) (n := 3) (by omega) with q | ⟨j, j1, rfl⟩
  · have q' : mX8_lies x2 0 3 = some 0 := r_lies_out (n := 3) q
    rw [q', Option.bind_some, if_pos rfl]
    exact ⟨_, _, _, rfl, rfl, h⟩
  · exfalso
    rcases (show j = 0 ∨ j = 1 ∨ j = 2 ∨ j = 3 by omega) with rfl | rfl | rfl | rfl
    · exact h0 rfl
    · exact c1 rfl
    · exact c2 rfl
    · exact c3 rfl
