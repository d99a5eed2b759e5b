/-! THE PRESSED TREE in memory -/
def GS (T : Nat → Nat → Nat → Nat → Prop) (F : Nat → Nat) (v : Int32) (u e r k g : Nat) : Prop := (v = -1 ∧ u = e ∧ ∀ x, r ≤ x → x < r + 2 ^ k → F x = g) ∨ ∃ q kq, v = nI u ∧ u < e ∧ kq ≤ k ∧ aside F g kq q k r ∧ T u e q kq
/-- a tree of nodes from one place to another, right for a way of leading -/
def GT (M : gMem) (F : Nat → Nat) : Nat → Nat → Nat → Nat → Nat → Prop
  | 0, _, _, _, _ => False
  | d + 1, i, e, p, k => (i < e ∧ e ≤ 256 ∧ k ≤ 32 ∧ p % 2 ^ k = 0 ∧ p + 2 ^ k ≤ 4294967296 ∧ M.1 35 i = nI p ∧ M.1 36 i = nI (32 - k) ∧ M.1 40 i = nI (mset F k p)) ∧ ∃ g m, g ≤ 16 ∧ M.1 37 i = nI g ∧ i < m ∧ m ≤ e ∧ (k = 0 → F p = g ∧ M.1 38 i = -1 ∧ M.1 39 i = -1) ∧ ∀ k', k = k' + 1 → GS (GT M F d) F (M.1 38 i) (i + 1) m p k' g ∧ GS (GT M F d) F (M.1 39 i) m e (p + 2 ^ k') k' g
theorem GS_imp {T T' : Nat → Nat → Nat → Nat → Prop} {F : Nat → Nat} {v : Int32} {u e r k g : Nat} (h : GS T F v u e r k g) (im : ∀ q kq, u < e → kq ≤ k → r ≤ q → q + 2 ^ kq ≤ r + 2 ^ k → T u e q kq → T' u e q kq) : GS T' F v u e r k g := by
  rcases h with h | ⟨q, kq, h1, h2, h3, h4, h5⟩
  · exact Or.inl h
  · exact Or.inr ⟨q, kq, h1, h2, h3, h4, im q kq h2 h3 h4.2.2.1 h4.2.2.2.1 h5⟩
theorem GT_mono {M : gMem} {F : Nat → Nat} : ∀ d d' i e p k, d ≤ d' → GT M F d i e p k → GT M F d' i e p k := by
  intro d
  induction d with
  | zero => intro d' i e p k _ h; exact absurd h id
  | succ d ih =>
    intro d' i e p k hd h
    obtain ⟨n, rfl⟩ : ∃ n, d' = n + 1 := ⟨d' - 1, by omega⟩
    obtain ⟨a, g, m, h1, h2, h3, h4, h5, h6⟩ := h
    exact ⟨a, g, m, h1, h2, h3, h4, h5, fun k' hk => ⟨GS_imp (h6 k' hk).1 (fun q kq _ _ _ _ t => ih n _ _ _ _ (by omega) t), GS_imp (h6 k' hk).2 (fun q kq _ _ _ _ t => ih n _ _ _ _ (by omega) t)⟩⟩
theorem GT_mem {M M' : gMem} {F : Nat → Nat} : ∀ d i e p k, (∀ w, 35 ≤ w → w ≤ 40 → ∀ j, i ≤ j → j < e → M'.1 w j = M.1 w j) → GT M F d i e p k → GT M' F d i e p k := by
  intro d
  induction d with
  | zero => intro i e p k _ h; exact absurd h id
  | succ d ih =>
    intro i e p k hm h
    obtain ⟨⟨a1, a2, a3, a4, a5, a6, a7, a8⟩, g, m, h1, h2, h3, h4, h5, h6⟩ := h
    have eq : ∀ w, 35 ≤ w → w ≤ 40 → M'.1 w i = M.1 w i := fun w w1 w2 => hm w w1 w2 i (Nat.le_refl _) a1
    refine ⟨⟨a1, a2, a3, a4, a5, by rw [eq 35 (by omega) (by omega)]; exact a6, by rw [eq 36 (by omega) (by omega)]; exact a7, by rw [eq 40 (by omega) (by omega)]; exact a8⟩, g, m, h1, by rw [eq 37 (by omega) (by omega)]; exact h2, h3, h4, ?_, fun k' hk => ?_⟩
    · rw [eq 38 (by omega) (by omega), eq 39 (by omega) (by omega)]; exact h5
    · rw [eq 38 (by omega) (by omega), eq 39 (by omega) (by omega)]
      exact ⟨GS_imp (h6 k' hk).1 (fun q kq _ _ _ _ t => ih _ _ _ _ (fun w w1 w2 j j1 j2 => hm w w1 w2 j (by omega) (by omega)) t), GS_imp (h6 k' hk).2 (fun q kq _ _ _ _ t => ih _ _ _ _ (fun w w1 w2 j j1 j2 => hm w w1 w2 j (by omega) (by omega)) t)⟩
theorem aside_F {F G : Nat → Nat} {g kq q K r : Nat} (h : aside F g kq q K r) (e : ∀ x, r ≤ x → x < r + 2 ^ K → F x = G x) : aside G g kq q K r :=
  ⟨h.1, h.2.1, h.2.2.1, h.2.2.2.1, fun x x1 x2 x3 => by rw [← e x x1 x2]; exact h.2.2.2.2 x x1 x2 x3⟩
theorem GT_F {M : gMem} {F G : Nat → Nat} : ∀ d i e p k, (∀ x, p ≤ x → x < p + 2 ^ k → F x = G x) → GT M F d i e p k → GT M G d i e p k := by
  intro d
  induction d with
  | zero => intro i e p k _ h; exact absurd h id
  | succ d ih =>
    intro i e p k hm h
    obtain ⟨⟨a1, a2, a3, a4, a5, a6, a7, a8⟩, g, m, h1, h2, h3, h4, h5, h6⟩ := h
    have pos := pw_pos k
    refine ⟨⟨a1, a2, a3, a4, a5, a6, a7, by rw [← mset_congr k p hm]; exact a8⟩, g, m, h1, h2, h3, h4, fun z => ?_, fun k' hk => ?_⟩
    · rw [← hm p (Nat.le_refl _) (by omega)]; exact h5 z
    · subst hk
      have e2 := pw_succ k'
      have side : ∀ v u e r, (∀ x, r ≤ x → x < r + 2 ^ k' → F x = G x) → GS (GT M F d) F v u e r k' g → GS (GT M G d) G v u e r k' g := by
        intro v u e r hr h
        rcases h with ⟨b1, b2, b3⟩ | ⟨q, kq, b1, b2, b3, b4, b5⟩
        · exact Or.inl ⟨b1, b2, fun x x1 x2 => by rw [← hr x x1 x2]; exact b3 x x1 x2⟩
        · exact Or.inr ⟨q, kq, b1, b2, b3, aside_F b4 hr, ih _ _ _ _ (fun x x1 x2 => hr x (by have := b4.2.2.1; omega) (by have := b4.2.2.2.1; omega)) b5⟩
      exact ⟨side _ _ _ _ (fun x x1 x2 => hm x x1 (by omega)) (h6 k' rfl).1, side _ _ _ _ (fun x x1 x2 => hm x (by omega) (by omega)) (h6 k' rfl).2⟩
/-- THE SET of a side -/
theorem m_setOfSide {M : gMem} {F : Nat → Nat} (hF : ∀ x, F x ≤ 16) {d i u e r k' g sz : Nat} {v : Int32} (hi : i < 256) (hk : k' + 1 ≤ 32) (h36 : M.1 36 i = nI (32 - (k' + 1))) (h37 : M.1 37 i = nI g) (hg : g ≤ 16) (hsz : M.1 34 6 = nI sz) (hs1 : e ≤ sz) (hs2 : sz ≤ 256) (h : GS (GT M F d) F v u e r k' g) : mX5_setOfSide M (nI i) v = some (nI (mset F k' r)) := by
  rw [mX5_setOfSide, ckI hi (by omega), nI_cl (by omega), h37, m_one hg, nmd]
  rcases h with ⟨b1, b2, b3⟩ | ⟨q, kq, b1, b2, b3, b4, b5⟩
  · rw [b1, if_pos (by decide), mset_const k' r b3]
  · cases d with
    | zero => exact absurd b5 id
    | succ d =>
      obtain ⟨⟨a1, a2, a3, a4, a5, a6, a7, a8⟩, _⟩ := b5
      have zq := mset_isZ hF kq q
      subst b1
      rw [if_neg (nI_pos (by omega)), hsz, if_pos (nI_lt (by omega) (by omega)), ckI (by omega) (by omega), ckI hi (by omega), nI_cl (by omega), a7, h36, pk_sub (by omega), show (1 : Int32) = nI 1 from rfl, pk_sub (by omega), nmd, show 32 - kq - (32 - (k' + 1)) - 1 = k' - kq by omega]
      obtain ⟨j, ej⟩ : ∃ j, k' = kq + j := ⟨k' - kq, by omega⟩
      subst ej
      have up := mset_up j r b4
      rw [show kq + j - kq = j by omega]
      by_cases j0 : j = 0
      · subst j0
        rw [if_neg (show ¬ 0 < nI 0 by decide), ckI (by omega) (by omega), a8]
        rw [if_pos rfl] at up
        rw [up]
      · rw [if_neg j0] at up
        rw [if_pos (show 0 < nI j from nI_lt (a := 0) (by omega) (by omega))]
        by_cases j1 : j = 1
        · subst j1
          rw [if_pos rfl] at up
          rw [if_pos rfl, ckI (by omega) (by omega), a8, m_both zq (isZ_pow hg), Option.bind_some, up]
        · rw [if_neg j1] at up
          rw [if_neg (fun q => j1 ((nI_inj (by omega) (by omega)).mp q)), up]
theorem m_setOfNone {M : gMem} {i g : Nat} (hi : i < 256) (h37 : M.1 37 i = nI g) (hg : g ≤ 16) : mX5_setOfSide M (nI i) (-1) = some (nI (2 ^ g)) := by
  rw [mX5_setOfSide, ckI hi (by omega), nI_cl (by omega), h37, m_one hg, nmd, if_pos (by decide)]
theorem xor_lt {a b k : Nat} : a ^^^ b < 2 ^ k ↔ a / 2 ^ k = b / 2 ^ k := by
  have e : (a ^^^ b) / 2 ^ k = a / 2 ^ k ^^^ b / 2 ^ k := by
    rw [← Nat.shiftRight_eq_div_pow, ← Nat.shiftRight_eq_div_pow, ← Nat.shiftRight_eq_div_pow, Nat.shiftRight_xor_distrib]
  constructor
  · intro h
    rw [Nat.div_eq_of_lt h] at e
    have : a / 2 ^ k ^^^ (a / 2 ^ k ^^^ b / 2 ^ k) = a / 2 ^ k ^^^ 0 := by rw [← e]
    rw [← Nat.xor_assoc, Nat.xor_self, Nat.zero_xor, Nat.xor_zero] at this
    exact this.symm
  · intro h
    rw [h, Nat.xor_self] at e
    rcases (Nat.div_eq_zero_iff).mp e with z | z
    · have := pw_pos k; omega
    · exact z
theorem div_al {p k a : Nat} (hp : p % 2 ^ k = 0) (h1 : p ≤ a) (h2 : a < p + 2 ^ k) : a / 2 ^ k * 2 ^ k = p := by
  have pos := pw_pos k
  have e := Nat.div_add_mod p (2 ^ k)
  rw [hp, Nat.add_zero] at e
  have : a / 2 ^ k = p / 2 ^ k := by
    rw [Nat.div_eq_iff pos]
    rw [Nat.mul_comm]
    omega
  rw [this, Nat.mul_comm]; exact e
theorem div_in (a k : Nat) : a / 2 ^ k * 2 ^ k ≤ a ∧ a < a / 2 ^ k * 2 ^ k + 2 ^ k := by
  have e := Nat.div_add_mod a (2 ^ k)
  have l := Nat.mod_lt a (pw_pos k)
  rw [Nat.mul_comm] at e
  omega
theorem bit_half {p k a : Nat} (hp : p % 2 ^ (k + 1) = 0) (h1 : p ≤ a) (h2 : a < p + 2 ^ (k + 1)) : a &&& 2 ^ k = 0 ↔ a < p + 2 ^ k := by
  have e := pw_succ k
  obtain ⟨a1, a2⟩ := al_half hp
  have key : a.testBit k = decide (p + 2 ^ k ≤ a) := by
    rw [Nat.testBit_eq_decide_div_mod_eq]
    have pe : p / 2 ^ k = 2 * (p / 2 ^ (k + 1)) := by
      have x := Nat.div_add_mod p (2 ^ (k + 1))
      rw [hp, Nat.add_zero] at x
      have y : p = 2 ^ k * (2 * (p / 2 ^ (k + 1))) := by rw [← Nat.mul_assoc, ← Nat.pow_succ]; exact x.symm
      exact Nat.div_eq_of_eq_mul_right (pw_pos k) y
    by_cases c : p + 2 ^ k ≤ a
    · have x := div_al a2 c (by omega)
      have z : a / 2 ^ k = (p + 2 ^ k) / 2 ^ k := by
        have y := Nat.div_add_mod (p + 2 ^ k) (2 ^ k)
        rw [a2, Nat.add_zero, Nat.mul_comm] at y
        exact Nat.eq_of_mul_eq_mul_right (pw_pos k) (x.trans y.symm)
      rw [z, Nat.add_div_right _ (pw_pos k), pe, decide_eq_true c]
      exact decide_eq_true (by omega)
    · have x := div_al a1 h1 (by omega)
      have z : a / 2 ^ k = p / 2 ^ k := by
        have y := Nat.div_add_mod p (2 ^ k)
        rw [a1, Nat.add_zero, Nat.mul_comm] at y
        exact Nat.eq_of_mul_eq_mul_right (pw_pos k) (x.trans y.symm)
      rw [z, pe, decide_eq_false c]
      exact decide_eq_false (by omega)
  rw [and_zero]
  constructor
  · intro h
    refine Classical.byContradiction fun q => h k ⟨?_, has_pow.mpr rfl⟩
    unfold hasG
    rw [key]; exact decide_eq_true (by omega)
  · intro h g q
    have := has_pow.mp q.2
    subst this
    have q1 := q.1
    unfold hasG at q1
    rw [key] at q1
    have := of_decide_eq_true q1
    omega
/-- how many bits a number has -/
theorem bl_ex {x : Nat} : ∀ k, x < 2 ^ k → ∃ L, L ≤ k ∧ x < 2 ^ L ∧ (L = 0 ∨ 2 ^ (L - 1) ≤ x) := by
  intro k
  induction k with
  | zero => intro h; exact ⟨0, Nat.le_refl _, h, Or.inl rfl⟩
  | succ k ih =>
    intro h
    by_cases c : x < 2 ^ k
    · obtain ⟨L, a, b⟩ := ih c
      exact ⟨L, by omega, b⟩
    · exact ⟨k + 1, Nat.le_refl _, h, Or.inr (by rw [Nat.add_sub_cancel]; omega)⟩
/-- the block is no greater than it must be -/
def tight (B : List L3) (f t p k : Nat) : Prop := f < t ∧ (isO B f p k ∨ ∃ k', k = k' + 1 ∧ (bk B f).1 < p + 2 ^ k' ∧ p + 2 ^ k' ≤ (bk B (t - 1)).1)
theorem m_common {M : gMem} {l : Nat} {B : List L3} (h : LB M l B) (hw : wfB B) {f t r k : Nat} (hft : f < t) (hI : InB B f t r k) (hr : r % 2 ^ k = 0) (hk : k ≤ 32) (hr2 : r + 2 ^ k ≤ 4294967296) : ∃ kq, kq ≤ k ∧ mX2_commonBits M l (nI f) (nI (t - 1)) = some (nI (32 - kq)) ∧ r ≤ (bk B f).1 / 2 ^ kq * 2 ^ kq ∧ (bk B f).1 / 2 ^ kq * 2 ^ kq + 2 ^ kq ≤ r + 2 ^ k ∧ InB B f t ((bk B f).1 / 2 ^ kq * 2 ^ kq) kq ∧ tight B f t ((bk B f).1 / 2 ^ kq * 2 ^ kq) kq := by
  obtain ⟨h1, h2, h3, h4, h5⟩ := id h
  have tl := hI.1
  have wf := hw.1 f (by omega)
  have wt := hw.1 (t - 1) (by omega)
  have wf1 := wf.1; have wf2 := wf.2.1
  have wt1 := wt.1
  have xl : (bk B f).1 ^^^ (bk B (t - 1)).1 < 4294967296 := by rw [← p32]; exact Nat.xor_lt_two_pow wf1 wt1
  obtain ⟨L, l1, l3, l4⟩ := bl_ex (x := (bk B f).1 ^^^ (bk B (t - 1)).1) 32 (by rw [p32]; exact xl)
  have inf := hI.2 f (Nat.le_refl _) hft
  have int := hI.2 (t - 1) (by omega) (by omega)
  have pf := pw_pos (32 - (bk B f).2.1)
  have pt := pw_pos (32 - (bk B (t - 1)).2.1)
  have ef := inf.2; have et := int.2
  unfold en at ef et
  have mono := wf_mono hw (show f ≤ t - 1 by omega) (show t - 1 < B.length by omega)
  have eqk : (bk B f).1 / 2 ^ k = (bk B (t - 1)).1 / 2 ^ k := by
    have a := div_al hr inf.1 (show (bk B f).1 < r + 2 ^ k by omega)
    have b := div_al hr int.1 (show (bk B (t - 1)).1 < r + 2 ^ k by omega)
    exact Nat.eq_of_mul_eq_mul_right (pw_pos k) (a.trans b.symm)
  have Lk : L ≤ k := by
    rcases l4 with z | z
    · omega
    · refine Classical.byContradiction fun q => ?_
      have x := xor_lt.mpr eqk
      have y := Nat.pow_le_pow_right (show 0 < 2 by omega) (show k ≤ L - 1 by omega)
      omega
  have fk := InB_k hI (Nat.le_refl f) hft
  obtain ⟨kq, ekq⟩ : ∃ kq, kq = max (32 - (bk B f).2.1) L := ⟨_, rfl⟩
  have kqk : kq ≤ k := by omega
  have eqq : (bk B f).1 / 2 ^ kq = (bk B (t - 1)).1 / 2 ^ kq := xor_lt.mp (Nat.lt_of_lt_of_le l3 (Nat.pow_le_pow_right (by omega) (by omega)))
  have dq := div_in (bk B f).1 kq
  have dt := div_in (bk B (t - 1)).1 kq
  rw [← eqq] at dt
  have alq : (bk B f).1 / 2 ^ kq * 2 ^ kq % 2 ^ kq = 0 := Nat.mul_mod_left _ _
  have rq : r ≤ (bk B f).1 / 2 ^ kq * 2 ^ kq := by
    refine Classical.byContradiction fun q => ?_
    have := al_le alq (mod_pw kqk hr) (by omega)
    omega
  have rq2 : (bk B f).1 / 2 ^ kq * 2 ^ kq + 2 ^ kq ≤ r + 2 ^ k := by
    refine al_le alq (mod_pw kqk (show (r + 2 ^ k) % 2 ^ k = 0 by rw [Nat.add_mod_right]; exact hr)) (by omega)
  refine ⟨kq, kqk, ?_, rq, rq2, ⟨tl, fun i i1 i2 => ?_⟩, hft, ?_⟩
  · have hfu := FU_big
    have lp : ∀ n i, i ≤ 32 - kq → 32 - kq - i < n → mX2_commonBits_17 n M l (nI f) (nI ((bk B f).1 ^^^ (bk B (t - 1)).1)) (nI i) = some (nI (32 - kq)) := by
      intro n
      induction n with
      | zero => intro i _ q; omega
      | succ n ih =>
        intro i hi hn
        rw [mX2_commonBits_17, ckI (by omega) (by omega), nI_cl (by omega), (h5 f (by omega)).2.1]
        by_cases c2 : (bk B f).2.1 ≤ i
        · rw [if_pos (nI_le c2 (by omega)), show i = 32 - kq by omega]
        · have al : ((bk B f).1 ^^^ (bk B (t - 1)).1) &&& 2 ^ (31 - i) ≤ (bk B f).1 ^^^ (bk B (t - 1)).1 := Nat.and_le_left
          have hx : (bk B f).1 ^^^ (bk B (t - 1)).1 < 0 + 2 ^ (31 - i + 1) := by
            have := Nat.pow_le_pow_right (show 0 < 2 by omega) (show L ≤ 31 - i + 1 by omega)
            omega
          have bh := bit_half (Nat.zero_mod _) (Nat.zero_le _) hx
          rw [if_neg (nI_ge (show i < (bk B f).2.1 by omega) (by omega)), m_bitAt (show i < 32 by omega), Option.bind_some, nI_and]
          by_cases c : i = 32 - kq
          · have hL : L - 1 = 31 - i := by omega
            have big : 2 ^ (31 - i) ≤ (bk B f).1 ^^^ (bk B (t - 1)).1 := by
              rcases l4 with z | z
              · omega
              · rw [← hL]; exact z
            rw [if_neg (show ¬ nI (((bk B f).1 ^^^ (bk B (t - 1)).1) &&& 2 ^ (31 - i)) = 0 from fun q => by
              have := bh.mp ((nI_inj (b := 0) (by omega) (by omega)).mp q)
              omega), c]
          · have small : (bk B f).1 ^^^ (bk B (t - 1)).1 < 0 + 2 ^ (31 - i) := by
              have := Nat.pow_le_pow_right (show 0 < 2 by omega) (show L ≤ 31 - i by omega)
              omega
            rw [if_pos (by rw [bh.mpr small]; rfl), nmd, nI_1]
            exact ih (i + 1) (by omega) (by omega)
    rw [mX2_commonBits, ckI (by omega) (by omega), ckI (by omega) (by omega), nI_cl (by omega), nI_cl (by omega), (h5 f (by omega)).1, (h5 (t - 1) (by omega)).1, nI_xor, nmd]
    exact lp FU 0 (by omega) (by omega)
  · have m1 := wf_mono hw i1 (show i < B.length by omega)
    have m2 := wf_mono hw (show i ≤ t - 1 by omega) (show t - 1 < B.length by omega)
    have wi := hw.1 i (by omega)
    have wi2 := wi.2.1
    have ki : 32 - (bk B i).2.1 ≤ kq := by
      refine Classical.byContradiction fun q => ?_
      have ai := wi.2.2.2
      have lt : (bk B f).1 < (bk B i).1 ∨ (bk B f).1 = (bk B i).1 := by omega
      rcases lt with lt | lt
      · have a2 := al_le alq (mod_pw (show kq ≤ 32 - (bk B i).2.1 by omega) ai) (show (bk B f).1 / 2 ^ kq * 2 ^ kq < (bk B i).1 by omega)
        omega
      · by_cases e : i = f
        · subst e; omega
        · have := hw.2 f i (by omega) (by omega)
          unfold ltL at this
          omega
    refine ⟨by omega, en_al wi ki (show ((bk B f).1 / 2 ^ kq * 2 ^ kq + 2 ^ kq) % 2 ^ kq = 0 by rw [Nat.add_mod_right]; exact alq) (by omega)⟩
  · by_cases e : kq = 32 - (bk B f).2.1
    · refine Or.inl ⟨?_, e.symm⟩
      rw [e]
      have := wf.2.2.2
      have x := Nat.div_add_mod (bk B f).1 (2 ^ (32 - (bk B f).2.1))
      rw [this, Nat.add_zero, Nat.mul_comm] at x
      exact x.symm
    · have eL : kq = L := by omega
      obtain ⟨k', ek⟩ : ∃ k', kq = k' + 1 := ⟨kq - 1, by omega⟩
      refine Or.inr ⟨k', ek, ?_⟩
      have l4' : 2 ^ k' ≤ (bk B f).1 ^^^ (bk B (t - 1)).1 := by
        rcases l4 with z | z
        · omega
        · rw [show L - 1 = k' by omega] at z; exact z
      have ne : (bk B f).1 / 2 ^ k' ≠ (bk B (t - 1)).1 / 2 ^ k' := fun q => by
        have := xor_lt.mpr q; omega
      have p2 := pw_succ k'
      rw [← ek] at p2
      have alh : ((bk B f).1 / 2 ^ kq * 2 ^ kq + 2 ^ k') % 2 ^ k' = 0 := by
        rw [Nat.add_mod_right]; exact mod_pw (show k' ≤ kq by omega) alq
      have alh0 : ((bk B f).1 / 2 ^ kq * 2 ^ kq) % 2 ^ k' = 0 := mod_pw (show k' ≤ kq by omega) alq
      constructor
      · refine Classical.byContradiction fun q => ne ?_
        have a := div_al alh (show _ ≤ (bk B f).1 by omega) (by omega)
        have b := div_al alh (show _ ≤ (bk B (t - 1)).1 by omega) (by omega)
        exact Nat.eq_of_mul_eq_mul_right (pw_pos k') (a.trans b.symm)
      · refine Classical.byContradiction fun q => ne ?_
        have a := div_al alh0 (show _ ≤ (bk B f).1 by omega) (by omega)
        have b := div_al alh0 (show _ ≤ (bk B (t - 1)).1 by omega) (by omega)
        exact Nat.eq_of_mul_eq_mul_right (pw_pos k') (a.trans b.symm)
theorem m_firstHigh {M : gMem} {l : Nat} {B : List L3} (h : LB M l B) (hw : wfB B) {b t p k : Nat} (hp : p % 2 ^ (k + 1) = 0) (hk : k + 1 ≤ 32) (hl : p + 2 ^ (k + 1) ≤ 4294967296) (hbt : b ≤ t) (ht : t ≤ B.length) (hI : ∀ i, b ≤ i → i < t → p ≤ (bk B i).1 ∧ (bk B i).1 < p + 2 ^ (k + 1)) : ∃ hh, mX2_firstHigh M l (nI b) (nI t) (nI (32 - (k + 1))) = some (nI hh) ∧ b ≤ hh ∧ hh ≤ t ∧ (∀ i, b ≤ i → i < hh → (bk B i).1 < p + 2 ^ k) ∧ (hh < t → p + 2 ^ k ≤ (bk B hh).1) := by
  have hfu := FU_big
  obtain ⟨h1, h2, h3, h4, h5⟩ := id h
  have lp : ∀ f i, b ≤ i → i ≤ t → t - i < f → (∀ j, b ≤ j → j < i → (bk B j).1 < p + 2 ^ k) → ∃ hh, mX2_firstHigh_3 f M l (nI t) (nI (32 - (k + 1))) (nI i) = some (nI hh) ∧ b ≤ hh ∧ hh ≤ t ∧ (∀ i, b ≤ i → i < hh → (bk B i).1 < p + 2 ^ k) ∧ (hh < t → p + 2 ^ k ≤ (bk B hh).1) := by
    intro f
    induction f with
    | zero => intro i _ _ h; omega
    | succ f ih =>
      intro i hi hi2 hf hj
      rw [mX2_firstHigh_3]
      by_cases z : i < t
      · have hh := hI i hi z
        have w := (hw.1 i (by omega)).1
        have al : (bk B i).1 &&& 2 ^ k ≤ (bk B i).1 := Nat.and_le_left
        rw [if_neg (nI_ge z (by omega)), ckI (by omega) (by omega), m_bitAt (by omega), Option.bind_some, nI_cl (by omega), (h5 i (by omega)).1, show 31 - (32 - (k + 1)) = k by omega, nI_and]
        by_cases c : (bk B i).1 < p + 2 ^ k
        · have c' := (bit_half hp hh.1 hh.2).mpr c
          rw [if_pos (by rw [c']; rfl), nmd, nI_1]
          exact ih (i + 1) (by omega) (by omega) (by omega) (fun j j1 j2 => by
            by_cases e : j = i
            · rw [e]; exact c
            · exact hj j j1 (by omega))
        · rw [if_neg (show ¬ nI ((bk B i).1 &&& 2 ^ k) = 0 from fun q => c ((bit_half hp hh.1 hh.2).mp ((nI_inj (b := 0) (by omega) (by omega)).mp q)))]
          exact ⟨i, rfl, hi, hi2, hj, fun _ => by omega⟩
      · rw [if_pos (nI_le (by omega) (by omega))]
        exact ⟨t, rfl, by omega, Nat.le_refl _, fun j j1 j2 => hj j j1 (by omega), fun q => by omega⟩
  exact lp FU b (Nat.le_refl _) hbt (by omega) (fun j j1 j2 => by omega)
