/-! the tree grows -/
/-- where two LINES part -/
def mee (B : List L3) (i j : Nat) (q : P2) : Prop := ∃ K, q.2 = K + 1 ∧ q.1 % 2 ^ (K + 1) = 0 ∧ q.1 ≤ (bk B i).1 ∧ (bk B i).1 < q.1 + 2 ^ K ∧ q.1 + 2 ^ K ≤ (bk B j).1 ∧ (bk B j).1 < q.1 + 2 ^ (K + 1) ∧ 32 - (bk B i).2.1 ≤ K ∧ 32 - (bk B j).2.1 ≤ K
def lnM (B : List L3) (f t : Nat) (q : P2) : Prop := (∃ i, f ≤ i ∧ i < t ∧ q = ((bk B i).1, 32 - (bk B i).2.1)) ∨ ∃ i j, f ≤ i ∧ i < j ∧ j < t ∧ mee B i j q
theorem mee_uniq {B : List L3} {i j : Nat} {q r : P2} (h : mee B i j q) (g : mee B i j r) : q = r := by
  have key : ∀ {q r : P2}, mee B i j q → mee B i j r → q.2 < r.2 → False := by
    rintro q r ⟨K, h1, h2, h3, h4, h5, h6, h7, h8⟩ ⟨J, g1, g2, g3, g4, g5, g6, g7, g8⟩ lt
    have kj : K + 1 ≤ J := by omega
    have al : (r.1 + 2 ^ J) % 2 ^ (K + 1) = 0 := mod_pw kj (al_half g2).2
    have := al_le h2 al (by omega)
    omega
  have e2 : q.2 = r.2 := by
    rcases Nat.lt_trichotomy q.2 r.2 with c | c | c
    · exact absurd (key h g c) id
    · exact c
    · exact absurd (key g h c) id
  refine Prod.ext ?_ e2
  obtain ⟨K, h1, h2, h3, h4, h5, h6, h7, h8⟩ := h
  obtain ⟨J, g1, g2, g3, g4, g5, g6, g7, g8⟩ := g
  have : J = K := by omega
  subst this
  have p2 := pw_succ J
  rw [← div_al h2 h3 (by omega), ← div_al g2 g3 (by omega)]
theorem mee_own {B : List L3} {f j p k : Nat} {q : P2} (ho : isO B f p k) (hp : p % 2 ^ k = 0) (hj : (bk B j).1 < p + 2 ^ k) : ¬ mee B f j q := by
  rintro ⟨K, h1, h2, h3, h4, h5, h6, h7, h8⟩
  unfold isO at ho
  rw [ho.1] at h4
  rw [ho.2] at h7
  have al : (q.1 + 2 ^ K) % 2 ^ k = 0 := mod_pw h7 (al_half h2).2
  have := al_le hp al h4
  omega
theorem tight_node {B : List L3} (hw : wfB B) {f t p k : Nat} (hI : InB B f t p k) (hp : p % 2 ^ k = 0) (h : tight B f t p k) : lnM B f t (p, k) := by
  obtain ⟨ft, h⟩ := h
  by_cases o : isO B f p k
  · exact Or.inl ⟨f, Nat.le_refl _, ft, Prod.ext o.1.symm o.2.symm⟩
  · rcases h with z | ⟨k', e, z1, z2⟩
    · exact absurd z o
    · subst e
      have p2 := pw_succ k'
      have a := hI.2 f (Nat.le_refl _) ft
      have b := hI.2 (t - 1) (by omega) (by omega)
      have kf := InB_k hI (Nat.le_refl f) ft
      have kt := InB_k hI (show f ≤ t - 1 by omega) (show t - 1 < t by omega)
      have pf := pw_pos (32 - (bk B f).2.1)
      have pt := pw_pos (32 - (bk B (t - 1)).2.1)
      have ft2 : f < t - 1 := by
        refine Classical.byContradiction fun q => ?_
        have : t - 1 = f := by omega
        rw [this] at z2; omega
      have a2 := a.2; have b2 := b.2
      unfold en at a2 b2
      refine Or.inr ⟨f, t - 1, Nat.le_refl _, ft2, by omega, k', rfl, hp, a.1, z1, z2, by show (bk B (t - 1)).1 < p + 2 ^ (k' + 1); omega, ?_, ?_⟩
      · refine Classical.byContradiction fun q => o ?_
        have e : 32 - (bk B f).2.1 = k' + 1 := by omega
        rw [e] at a2
        exact ⟨by omega, e⟩
      · refine Classical.byContradiction fun q => ?_
        have e : 32 - (bk B (t - 1)).2.1 = k' + 1 := by omega
        rw [e] at b2
        have := own_first hw hI (show f ≤ t - 1 by omega) (by omega) ⟨by omega, e⟩
        omega
theorem GS_F {M : gMem} {F G : Nat → Nat} {d : Nat} {v : Int32} {u e r k g : Nat} (hr : ∀ x, r ≤ x → x < r + 2 ^ k → F x = G x) (h : GS (GT M F d) F v u e r k g) : GS (GT M G d) G v u e r k g := by
  rcases h with ⟨b1, b2, b3⟩ | ⟨q, kq, b1, b2, b3, b4, b5⟩
  · exact Or.inl ⟨b1, b2, fun x x1 x2 => by rw [← hr x x1 x2]; exact b3 x x1 x2⟩
  · exact Or.inr ⟨q, kq, b1, b2, b3, aside_F b4 hr, GT_F _ _ _ _ _ (fun x x1 x2 => hr x (by have := b4.2.2.1; omega) (by have := b4.2.2.2.1; omega)) b5⟩
theorem GS_mem {M M' : gMem} {F : Nat → Nat} {d : Nat} {v : Int32} {u e r k g : Nat} (hm : ∀ w, 35 ≤ w → w ≤ 40 → ∀ j, u ≤ j → j < e → M'.1 w j = M.1 w j) (h : GS (GT M F d) F v u e r k g) : GS (GT M' F d) F v u e r k g :=
  GS_imp h (fun q kq _ _ _ _ t => GT_mem _ _ _ _ _ hm t)
def ownB (B : List L3) (f t p k b : Nat) : Prop := (b = f ∧ ¬ (f < t ∧ isO B f p k)) ∨ (b = f + 1 ∧ f < t ∧ isO B f p k)
def grM (M : gMem) (sz p k : Nat) : gMem := sI (sI (sI M 34 6 (nI (sz + 1))) 35 sz (nI p)) 36 sz (nI (32 - k))
theorem grow_head {l : Nat} {B : List L3} (hl : l + 4 ≤ 34) (hw : wfB B) {M : gMem} {f t p k c sz : Nat} (h : LB M l B) (hft : f ≤ t) (ht : t ≤ B.length) (hp : p + 2 ^ k ≤ 4294967296) (hk : k ≤ 32) (hsz : M.1 34 6 = nI sz) (hs : sz < 256) (rec : gMem → Nat → Int32 → Int32 → Int32 → Int32 → Int32 → Option (Int32 × gMem)) : ∃ b, ownB B f t p k b ∧ mX5_grow_b rec M l (nI f) (nI t) (nI p) (nI (32 - k)) (nI c) = mX5_grow_113 rec (grM M sz p k) l (nI t) (nI (32 - k)) (nI sz) (nI b) (nI (cB B f b c)) (nI sz) := by
  have pos := pw_pos k
  obtain ⟨h1, h2, h3, h4, h5⟩ := id h
  have LB4 : LB (sI M 34 6 (nI (sz + 1))) l B := h.off (l2 := 34) (n := 7) (sI_Off (by omega)) (Or.inl hl)
  have no : cB B f f c = c := if_pos rfl
  have y57 : ∀ b z0 gg, (z0 = 0 ∧ b = f ∧ gg = nI c) ∨ (z0 = 1 ∧ b = f + 1 ∧ f < t ∧ gg = nI (bk B f).2.2) → mX5_grow_57 rec (sI M 34 6 (nI (sz + 1))) l (nI f) (nI t) (nI p) (nI (32 - k)) (nI c) (nI sz) z0 = mX5_grow_113 rec (grM M sz p k) l (nI t) (nI (32 - k)) (nI sz) (nI b) gg (nI sz) := by
    rintro b z0 gg (⟨e1, e2, e3⟩ | ⟨e1, e2, e4, e3⟩)
    · subst e1; subst e2; subst e3
      rw [mX5_grow_57, if_pos rfl, mX5_grow_71, ckI hs (by omega), nI_cl (by omega), nmd, ckI hs (by omega), nmd, if_pos rfl]
      rfl
    · subst e1; subst e2; subst e3
      have g0 : (sI (sI (sI M 34 6 (nI (sz + 1))) 35 sz (nI p)) 36 sz (nI (32 - k))).1 (l + 3) f = nI (bk B f).2.2 := by
        rw [(sI_off _ (show l + 3 ≠ 36 by omega)).1, (sI_off _ (show l + 3 ≠ 35 by omega)).1, (sI_off _ (show l + 3 ≠ 34 by omega)).1]
        exact (h5 f (by omega)).2.2
      rw [mX5_grow_57, if_neg one_ne, mX5_grow_71, ckI hs (by omega), nI_cl (by omega), nmd, ckI hs (by omega), nmd, if_neg one_ne, ckI (by omega) (by omega), nI_cl (by omega), g0, nI_1]
      rfl
  have hd : mX5_grow_b rec M l (nI f) (nI t) (nI p) (nI (32 - k)) (nI c) = if nI t ≤ nI f then (mX5_grow_57 rec (sI M 34 6 (nI (sz + 1))) l (nI f) (nI t) (nI p) (nI (32 - k)) (nI c) (nI sz) (0 : Int32)) else ((mX2_isAt (sI M 34 6 (nI (sz + 1))) l (nI f) (nI p) (nI (32 - k))).bind fun r6 => if r6 = 0 then (mX5_grow_57 rec (sI M 34 6 (nI (sz + 1))) l (nI f) (nI t) (nI p) (nI (32 - k)) (nI c) (nI sz) (0 : Int32)) else (mX5_grow_57 rec (sI M 34 6 (nI (sz + 1))) l (nI f) (nI t) (nI p) (nI (32 - k)) (nI c) (nI sz) (1 : Int32))) := by
    rw [mX5_grow_b, hsz, if_neg (show ¬ (256 : Int32) ≤ nI sz from nI_ge (b := 256) hs (by omega)), if_pos (show nI (32 - k) ≤ (32 : Int32) from nI_le (b := 32) (by omega) (by omega)), nmd, nmd, nI_1]
  rw [hd]
  by_cases ft : f < t
  · have w := hw.1 f (by omega)
    have w1 := w.1; have w2 := w.2.1
    rw [if_neg (nI_ge ft (by omega)), m_isAt LB4 (by omega), Option.bind_some]
    by_cases c1 : isO B f p k
    · have dd : f < B.length ∧ nI (bk B f).1 = nI p ∧ nI (bk B f).2.1 = nI (32 - k) := by
        obtain ⟨o1, o2⟩ := c1
        exact ⟨by omega, by rw [o1], by congr 1; omega⟩
      rw [decide_eq_true dd, if_neg (show ¬ bz true = 0 from one_ne)]
      refine ⟨f + 1, Or.inr ⟨rfl, ft, c1⟩, ?_⟩
      rw [show cB B f (f + 1) c = (bk B f).2.2 from if_neg (by omega)]
      exact y57 (f + 1) 1 _ (Or.inr ⟨rfl, rfl, ft, rfl⟩)
    · have dd : ¬ (f < B.length ∧ nI (bk B f).1 = nI p ∧ nI (bk B f).2.1 = nI (32 - k)) := by
        rintro ⟨_, d1, d2⟩
        have e1 := (nI_inj (by omega) (by omega)).mp d1
        have e2 := (nI_inj (by omega) (by omega)).mp d2
        exact c1 ⟨e1, by omega⟩
      rw [decide_eq_false dd, if_pos (show bz false = 0 from rfl)]
      refine ⟨f, Or.inl ⟨rfl, fun q => c1 q.2⟩, ?_⟩
      rw [no]
      exact y57 f 0 _ (Or.inl ⟨rfl, rfl, rfl⟩)
  · rw [if_pos (nI_le (by omega) (by omega))]
    refine ⟨f, Or.inl ⟨rfl, fun q => ft q.1⟩, ?_⟩
    rw [no]
    exact y57 f 0 _ (Or.inl ⟨rfl, rfl, rfl⟩)
def grN (N f t : Nat) (ti : Prop) : Prop := 1 ≤ N ∧ (2 * (t - f) ≤ N ∨ (ti ∧ 2 * (t - f) ≤ N + 1))
def inBk (p k : Nat) (q : P2) : Prop := p ≤ q.1 ∧ q.1 + 2 ^ q.2 ≤ p + 2 ^ k
theorem m_grow {l : Nat} {B : List L3} (hl : l + 4 ≤ 34) (hw : wfB B) : ∀ d k (M : gMem) (f t p c sz N : Nat), k < d → f ≤ t → LB M l B → InB B f t p k → p % 2 ^ k = 0 → p + 2 ^ k ≤ 4294967296 → k ≤ 32 → c ≤ 16 → M.1 34 6 = nI sz → grN N f t (tight B f t p k) → sz + N ≤ 256 → ∃ (M' : gMem) (e : Nat) (Ns : List P2), mX5_grow d M l (nI f) (nI t) (nI p) (nI (32 - k)) (nI c) = some (nI sz, M') ∧ Off 34 7 M M' ∧ M'.1 34 6 = nI e ∧ sz < e ∧ e ≤ sz + N ∧ GT M' (leadR B f t c) (k + 1) sz e p k ∧ (∀ w, 35 ≤ w → w ≤ 40 → ∀ j, j < sz → M'.1 w j = M.1 w j) ∧ Ns.length = e - sz ∧ Ns.Nodup ∧ (∀ q, q ∈ Ns → inBk p k q) ∧ ∀ q, q ∈ Ns ↔ (q = (p, k) ∨ lnM B f t q) := by
  intro d
  induction d with
  | zero => intro k M f t p c sz N h; omega
  | succ d ih =>
    intro k M f t p c sz N hkd hft hL hI hp hp2 hk hc hsz hN hs
    have pos := pw_pos k
    have tl := hI.1
    have n1 := hN.1
    have sz256 : sz < 256 := by omega
    -- a side
    have side : ∀ (M1 : gMem) (b h r k' c' s1 N1 : Nat), k' < d → b ≤ h → LB M1 l B → InB B b h r k' → r % 2 ^ k' = 0 → r + 2 ^ k' ≤ 4294967296 → k' < 32 → c' ≤ 16 → M1.1 34 6 = nI s1 → M1.1 36 sz = nI (32 - (k' + 1)) → M1.1 37 sz = nI c' → (b < h → 2 * (h - b) ≤ N1 + 1) → s1 + N1 ≤ 256 → ∃ (M' : gMem) (e : Nat) (Ns : List P2) (v : Int32), mX5_growSide (mX5_grow d) M1 l (nI b) (nI h) (nI sz) = some (v, M') ∧ Off 34 7 M1 M' ∧ M'.1 34 6 = nI e ∧ s1 ≤ e ∧ e ≤ s1 + N1 ∧ GS (GT M' (leadR B b h c') (k' + 1)) (leadR B b h c') v s1 e r k' c' ∧ (∀ w, 35 ≤ w → w ≤ 40 → ∀ j, j < s1 → M'.1 w j = M1.1 w j) ∧ Ns.length = e - s1 ∧ Ns.Nodup ∧ (∀ q, q ∈ Ns → inBk r k' q) ∧ ∀ q, q ∈ Ns ↔ lnM B b h q := by
      intro M1 b h r k' c' s1 N1 kd bh L1 I1 r1 r2 k32 c16 h34 h36 h37 hN1 hs1
      obtain ⟨a1, a2, a3, a4, a5⟩ := id L1
      have hlen := I1.1
      rw [mX5_growSide, if_neg (nI_pos (by omega))]
      by_cases z : b < h
      · have w := hw.1 b (by omega)
        have w1 := w.1
        obtain ⟨kq, q1, q2, q3, q4, q5, q6⟩ := m_common L1 hw z I1 r1 (by omega) r2
        have alq : (bk B b).1 / 2 ^ kq * 2 ^ kq % 2 ^ kq = 0 := Nat.mul_mod_left _ _
        obtain ⟨M', e, Ns, g1, g2, g3, g4, g5, g6, g7, g8, g9, g10, g11⟩ := ih kq M1 b h ((bk B b).1 / 2 ^ kq * 2 ^ kq) c' s1 N1 (by omega) bh L1 q5 alq (by omega) (by omega) c16 h34 ⟨by have := hN1 z; omega, Or.inr ⟨q6, hN1 z⟩⟩ hs1
        refine ⟨M', e, Ns, nI s1, ?_, g2, g3, by omega, g5, Or.inr ⟨_, kq, rfl, g4, q1, ⟨alq, r1, q3, q4, fun x x1 x2 x3 => ?_⟩, GT_mono _ _ _ _ _ _ (by omega) g6⟩, g7, g8, g9, fun q hq => ?_, fun q => ?_⟩
        · rw [if_neg (nI_ge z (by omega)), a3, if_pos (nI_le (by omega) (by omega)), show (1 : Int32) = nI 1 from rfl, pk_sub (by omega), q2, Option.bind_some, ckI sz256 (by omega), nI_cl (n := sz) (by omega), h36, if_pos (nI_lt (by omega) (by omega)), ckI (by omega) (by omega), m_mask (by omega), Option.bind_some, ckI sz256 (by omega), h37, nI_cl (n := b) (by omega), (a5 b (by omega)).1, and_mask w1 (by omega), show 32 - (32 - kq) = kq by omega, g1, Option.bind_some]
        · refine leadR_none (fun j j1 j2 => mt_no1 (hw.1 j (by omega)) ?_)
          have := q5.2 j j1 j2
          omega
        · have := g10 q hq
          unfold inBk at this ⊢
          omega
        · rw [g11]
          exact ⟨fun y => y.elim (fun y => y ▸ tight_node hw q5 alq q6) id, Or.inr⟩
      · have e : b = h := by omega
        subst e
        refine ⟨M1, s1, [], -1, ?_, Off.rf, h34, Nat.le_refl _, by omega, Or.inl ⟨rfl, rfl, fun x _ _ => leadR_none (fun j j1 j2 => by omega)⟩, fun _ _ _ _ _ => rfl, by simp, by simp, fun q hq => by simp at hq, fun q => ?_⟩
        · rw [if_pos (nI_le (by omega) (by omega))]
        · constructor
          · intro y; simp at y
          · rintro (⟨i, y⟩ | ⟨i, j, y⟩) <;> omega
    obtain ⟨b, ob, hd⟩ := grow_head hl hw (f := f) (t := t) (p := p) (k := k) (c := c) hL hft tl hp2 hk hsz sz256 (mX5_grow d)
    have g16 : cB B f b c ≤ 16 := by
      unfold cB
      split
      · exact hc
      · rcases ob with y | y
        · omega
        · exact (hw.1 f (by omega)).2.2.1
    rw [mX5_grow, hd]
    clear hd
    generalize hgg : cB B f b c = g at g16
    have fb : f ≤ b ∧ b ≤ t := by rcases ob with y | y <;> omega
    obtain ⟨M2, eM2⟩ : ∃ M2, M2 = sI (grM M sz p k) 37 sz (nI g) := ⟨_, rfl⟩
    have o2 : Off 34 7 M M2 := by
      rw [eM2]; unfold grM
      exact (((sI_Off (by omega)).tr (sI_Off (by omega))).tr (sI_Off (by omega))).tr (sI_Off (by omega))
    have L2 : LB M2 l B := hL.off o2 (Or.inl hl)
    have e34 : M2.1 34 6 = nI (sz + 1) := by
      rw [eM2]; unfold grM
      rw [sI1, if_neg (by omega), sI1, if_neg (by omega), sI1, if_neg (by omega), sI1, if_pos ⟨rfl, rfl⟩]
    have e35 : M2.1 35 sz = nI p := by
      rw [eM2]; unfold grM
      rw [sI1, if_neg (by omega), sI1, if_neg (by omega), sI1, if_pos ⟨rfl, rfl⟩]
    have e36 : M2.1 36 sz = nI (32 - k) := by
      rw [eM2]; unfold grM
      rw [sI1, if_neg (by omega), sI1, if_pos ⟨rfl, rfl⟩]
    have e37 : M2.1 37 sz = nI g := by
      rw [eM2, sI1, if_pos ⟨rfl, rfl⟩]
    have bel : ∀ w, 35 ≤ w → w ≤ 40 → ∀ j, j < sz → M2.1 w j = M.1 w j := by
      intro w w1 w2 j hj
      rw [eM2]; unfold grM
      rw [sI1, if_neg (by omega), sI1, if_neg (by omega), sI1, if_neg (by omega), sI1, if_neg (by omega)]
    rw [mX5_grow_113, ckI sz256 (by omega), nI_cl (by omega), nmd, ← eM2]
    clear eM2
    cases k with
    | zero =>
      have bt : b = t := by
        rcases ob with ⟨y, y2⟩ | ⟨y, y2, y3⟩
        · by_cases z : f < t
          · exact absurd ⟨z, (one_line hw hI (Nat.le_refl f) z).2⟩ y2
          · omega
        · by_cases z : f + 1 < t
          · have := (one_line hw hI (show f ≤ f + 1 by omega) z).1; omega
          · omega
      have fh : mX2_firstHigh M2 l (nI b) (nI t) (nI (32 - 0)) = some (nI t) := by
        obtain ⟨n, hn⟩ : ∃ n, FU = n + 1 := ⟨FU - 1, by have := FU_big; omega⟩
        rw [mX2_firstHigh, hn, mX2_firstHigh_3, if_pos (nI_le (by omega) (by have := hL.2.1; have := hL.1; omega))]
      have gs : ∀ (M1 : gMem) (y : Int32), mX5_growSide (mX5_grow d) M1 l (nI t) (nI t) y = some (-1, M1) := by
        intro M1 y
        rw [mX5_growSide, if_neg (nI_pos (by have := hL.2.1; have := hL.1; omega)), if_pos (nI_le (by omega) (by have := hL.2.1; have := hL.1; omega))]
      rw [fh, Option.bind_some, bt, gs, Option.bind_some, ckI sz256 (by omega), nmd, gs, Option.bind_some, ckI sz256 (by omega), nmd, ckI sz256 (by omega)]
      obtain ⟨M11, eM⟩ : ∃ M11, M11 = sI (sI M2 38 sz (-1)) 39 sz (-1) := ⟨_, rfl⟩
      have at11 : ∀ w j, M11.1 w j = if w = 39 ∧ j = sz then -1 else if w = 38 ∧ j = sz then -1 else M2.1 w j := by
        intro w j; rw [eM, sI1, sI1]
      have o11 : Off 34 7 M M11 := by rw [eM]; exact (o2.tr (sI_Off (by omega))).tr (sI_Off (by omega))
      show ∃ (M' : gMem) (e : Nat) (Ns : List P2), ((mX5_setOfSide (sI (sI M2 38 sz (-1)) 39 sz (-1)) (nI sz) ((sI (sI M2 38 sz (-1)) 39 sz (-1)).1 38 sz)).bind _) = _ ∧ _
      rw [← eM]
      have x38 : M11.1 38 sz = -1 := by rw [at11, if_neg (by omega), if_pos ⟨rfl, rfl⟩]
      have x39 : M11.1 39 sz = -1 := by rw [at11, if_pos ⟨rfl, rfl⟩]
      have x37 : M11.1 37 sz = nI g := by rw [at11, if_neg (by omega), if_neg (by omega)]; exact e37
      rw [x38, m_setOfNone sz256 x37 g16, Option.bind_some, ckI sz256 (by omega), x39, m_setOfNone sz256 x37 g16, Option.bind_some, m_both (isZ_pow g16) (isZ_pow g16), bth_self (isZ_pow g16).1, Option.bind_some, ckI sz256 (by omega), nmd]
      have Fp : leadR B f t c p = g := by
        rw [← hgg]
        unfold cB
        rcases ob with ⟨y, y2⟩ | ⟨y, y2, y3⟩
        · rw [if_pos y]; exact leadR_none (fun j j1 j2 => by omega)
        · rw [if_neg (by omega)]
          refine leadR_some (Nat.le_refl _) y2 ((mt_range (hw.1 f (by omega)) p).mpr ?_) (fun j j1 j2 => by omega)
          unfold isO at y3
          unfold en
          rw [y3.1, y3.2]; omega
      have at18 : ∀ w j, (sI M11 40 sz (nI (2 ^ g))).1 w j = if w = 40 ∧ j = sz then nI (2 ^ g) else M11.1 w j := fun w j => by rw [sI1]
      refine ⟨_, sz + 1, [(p, 0)], rfl, o11.tr (sI_Off (by omega)), ?_, by omega, by omega, ⟨⟨by omega, by omega, by omega, hp, hp2, ?_, ?_, ?_⟩, g, sz + 1, g16, ?_, by omega, by omega, fun _ => ⟨Fp, ?_, ?_⟩, fun k' hk' => by omega⟩, ?_, by simp, by simp, ?_, ?_⟩
      · rw [at18, if_neg (by omega), at11, if_neg (by omega), if_neg (by omega)]; exact e34
      · rw [at18, if_neg (by omega), at11, if_neg (by omega), if_neg (by omega)]; exact e35
      · rw [at18, if_neg (by omega), at11, if_neg (by omega), if_neg (by omega)]; exact e36
      · rw [at18, if_pos ⟨rfl, rfl⟩, mset, Fp]
      · rw [at18, if_neg (by omega)]; exact x37
      · rw [at18, if_neg (by omega)]; exact x38
      · rw [at18, if_neg (by omega)]; exact x39
      · intro w w1 w2 j hj
        rw [at18, if_neg (by omega), at11, if_neg (by omega), if_neg (by omega)]; exact bel w w1 w2 j hj
      · intro q hq
        rw [List.mem_singleton.mp hq]; exact ⟨Nat.le_refl _, Nat.le_refl _⟩
      · intro q
        rw [List.mem_singleton]
        constructor
        · exact Or.inl
        · rintro (y | ⟨i, i1, i2, y⟩ | ⟨i, j, i1, i2, i3, y⟩)
          · exact y
          · have o := one_line hw hI i1 i2
            rw [y, o.1]
            exact Prod.ext o.2.1 o.2.2
          · have o1 := one_line hw hI i1 (show i < t by omega)
            have o2 := one_line hw hI (show f ≤ j by omega) i3
            omega
    | succ k' =>
      have p2 := pw_succ k'
      have alh := al_half hp
      obtain ⟨h, fh, h1, h2, h3, h4⟩ := m_firstHigh L2 hw hp hk hp2 fb.2 tl (fun i i1 i2 => by
        have x := hI.2 i (by omega) i2
        have y := pw_pos (32 - (bk B i).2.1)
        have z := x.2
        unfold en at z
        omega)
      have S : sp B f t p k' b h := ⟨ob, h1, h2, h3, h4⟩
      obtain ⟨I1, I2⟩ := split hw hI hp S
      have nn : 1 + (2 * (h - b) - 1) + (2 * (t - h) - 1) ≤ N := by
        rcases ob with ⟨y, y2⟩ | ⟨y, y2, y3⟩
        · rcases hN.2 with z | ⟨⟨z1, z2⟩, z3⟩
          · omega
          · rcases z2 with z2 | ⟨k2, z4, z5, z6⟩
            · exact absurd ⟨z1, z2⟩ y2
            · have : k2 = k' := by omega
              subst this
              have a1 : b < h := by
                refine Classical.byContradiction fun q => ?_
                have : h = b := by omega
                have := h4 (by omega)
                rw [show h = f by omega] at this
                omega
              have a2 : h < t := by
                refine Classical.byContradiction fun q => ?_
                have := h3 (t - 1) (by omega) (by omega)
                omega
              omega
        · rcases hN.2 with z | ⟨_, z⟩ <;> omega
      rw [fh, Option.bind_some]
      obtain ⟨M3, e1, Ns1, v1, a1, a2, a3, a4, a5, a6, a7, a8, a9, a10, a11⟩ := side M2 b h p k' g (sz + 1) (2 * (h - b) - 1) (by omega) h1 L2 I1 alh.1 (by omega) (by omega) g16 e34 e36 e37 (fun _ => by omega) (by omega)
      rw [a1, Option.bind_some, ckI sz256 (by omega), nmd]
      have x36 : (sI M3 38 sz v1).1 36 sz = nI (32 - (k' + 1)) := by rw [sI1, if_neg (by omega), a7 36 (by omega) (by omega) sz (by omega)]; exact e36
      have x37 : (sI M3 38 sz v1).1 37 sz = nI g := by rw [sI1, if_neg (by omega), a7 37 (by omega) (by omega) sz (by omega)]; exact e37
      show ∃ (M' : gMem) (e : Nat) (Ns : List P2), ((mX5_growSide (mX5_grow d) (sI M3 38 sz v1) l (nI h) (nI t) (nI sz)).bind _) = _ ∧ _
      have o7 : Off 34 7 M (sI M3 38 sz v1) := (o2.tr a2).tr (sI_Off (by omega))
      obtain ⟨M4, e2, Ns2, v2, b1, b2, b3, b4, b5, b6, b7, b8, b9, b10, b11⟩ := side (sI M3 38 sz v1) h t (p + 2 ^ k') k' g e1 (2 * (t - h) - 1) (by omega) h2 (hL.off o7 (Or.inl hl)) I2 alh.2 (by omega) (by omega) g16 (by rw [sI1, if_neg (by omega)]; exact a3) x36 x37 (fun _ => by omega) (by omega)
      rw [b1, Option.bind_some, ckI sz256 (by omega), nmd, ckI sz256 (by omega)]
      show ∃ (M' : gMem) (e : Nat) (Ns : List P2), ((mX5_setOfSide (sI M4 39 sz v2) (nI sz) ((sI M4 39 sz v2).1 38 sz)).bind _) = _ ∧ _
      obtain ⟨M11, eM⟩ : ∃ M11, M11 = sI M4 39 sz v2 := ⟨_, rfl⟩
      rw [← eM]
      have at11 : ∀ w j, M11.1 w j = if w = 39 ∧ j = sz then v2 else M4.1 w j := fun w j => by rw [eM, sI1]
      have o11 : Off 34 7 M M11 := by rw [eM]; exact (o7.tr b2).tr (sI_Off (by omega))
      have at4 : ∀ w, 35 ≤ w → w ≤ 40 → ∀ j, j < e1 → M4.1 w j = if w = 38 ∧ j = sz then v1 else M3.1 w j := fun w w1 w2 j hj => by rw [b7 w w1 w2 j hj, sI1]
      have y34 : M11.1 34 6 = nI e2 := by rw [at11, if_neg (by omega)]; exact b3
      have y35 : M11.1 35 sz = nI p := by rw [at11, if_neg (by omega), at4 _ (by omega) (by omega) _ (by omega), if_neg (by omega), a7 _ (by omega) (by omega) _ (by omega)]; exact e35
      have y36 : M11.1 36 sz = nI (32 - (k' + 1)) := by rw [at11, if_neg (by omega), at4 _ (by omega) (by omega) _ (by omega), if_neg (by omega), a7 _ (by omega) (by omega) _ (by omega)]; exact e36
      have y37 : M11.1 37 sz = nI g := by rw [at11, if_neg (by omega), at4 _ (by omega) (by omega) _ (by omega), if_neg (by omega), a7 _ (by omega) (by omega) _ (by omega)]; exact e37
      have y38 : M11.1 38 sz = v1 := by rw [at11, if_neg (by omega), at4 _ (by omega) (by omega) _ (by omega), if_pos ⟨rfl, rfl⟩]
      have y39 : M11.1 39 sz = v2 := by rw [at11, if_pos ⟨rfl, rfl⟩]
      have hF : ∀ x, leadR B f t c x ≤ 16 := leadR_le hw tl hc
      have lo : GS (GT M11 (leadR B f t c) (k' + 1)) (leadR B f t c) v1 (sz + 1) e1 p k' g := by
        refine GS_F (F := leadR B b h g) (fun x x1 x2 => ?_) (GS_mem (fun w w1 w2 j j1 j2 => ?_) a6)
        · rw [lead_low hw hI hp S x1 x2, hgg]
        · rw [at11, if_neg (by omega), at4 _ w1 w2 _ j2, if_neg (by omega)]
      have hi : GS (GT M11 (leadR B f t c) (k' + 1)) (leadR B f t c) v2 e1 e2 (p + 2 ^ k') k' g := by
        refine GS_F (F := leadR B h t g) (fun x x1 x2 => ?_) (GS_mem (fun w w1 w2 j j1 j2 => ?_) b6)
        · rw [lead_high hw hI hp S x1 x2, hgg]
        · rw [at11, if_neg (by omega)]
      rw [y38, y39, m_setOfSide hF sz256 hk y36 y37 g16 y34 b4 (by omega) lo, Option.bind_some, ckI sz256 (by omega), m_setOfSide hF sz256 hk y36 y37 g16 y34 (Nat.le_refl _) (by omega) hi, Option.bind_some, m_both (mset_isZ hF _ _) (mset_isZ hF _ _), Option.bind_some, ckI sz256 (by omega), nmd]
      have at18 : ∀ v w j, (sI M11 40 sz v).1 w j = if w = 40 ∧ j = sz then v else M11.1 w j := fun v w j => by rw [sI1]
      refine ⟨_, e2, (p, k' + 1) :: (Ns1 ++ Ns2), rfl, o11.tr (sI_Off (by omega)), ?_, by omega, by omega, ⟨⟨by omega, by omega, hk, hp, hp2, ?_, ?_, ?_⟩, g, e1, g16, ?_, by omega, b4, fun z => by omega, fun k2 hk2 => ?_⟩, ?_, ?_, ?_, ?_, ?_⟩
      · rw [at18, if_neg (by omega)]; exact y34
      · rw [at18, if_neg (by omega)]; exact y35
      · rw [at18, if_neg (by omega)]; exact y36
      · rw [at18, if_pos ⟨rfl, rfl⟩]; rfl
      · rw [at18, if_neg (by omega)]; exact y37
      · have : k2 = k' := by omega
        subst this
        rw [at18, if_neg (by omega), y38, at18, if_neg (by omega), y39]
        exact ⟨GS_mem (fun w w1 w2 j j1 j2 => by rw [at18, if_neg (by omega)]) lo, GS_mem (fun w w1 w2 j j1 j2 => by rw [at18, if_neg (by omega)]) hi⟩
      · intro w w1 w2 j hj
        rw [at18, if_neg (by omega), at11, if_neg (by omega), at4 _ w1 w2 _ (by omega), if_neg (by omega), a7 _ w1 w2 _ (by omega)]
        exact bel w w1 w2 j hj
      · rw [List.length_cons, List.length_append]; omega
      · refine List.nodup_cons.mpr ⟨fun q => ?_, app_nd a9 b9 (fun q q1 q2 => ?_)⟩
        · rcases List.mem_append.mp q with z | z
          · have := (a10 _ z).2
            have x : p + 2 ^ (k' + 1) ≤ p + 2 ^ k' := this
            have := pw_pos k'; omega
          · have x1 : p + 2 ^ k' ≤ p := (b10 _ z).1
            have := pw_pos k'; omega
        · have x := (a10 q q1).2
          have y := (b10 q q2).1
          have := pw_pos q.2
          omega
      · intro q hq
        rcases List.mem_cons.mp hq with z | z
        · rw [z]; exact ⟨Nat.le_refl _, Nat.le_refl _⟩
        · rcases List.mem_append.mp z with z | z
          · have x := a10 q z
            unfold inBk at x ⊢; omega
          · have x := b10 q z
            unfold inBk at x ⊢; omega
      · intro q
        rw [List.mem_cons, List.mem_append, a11, b11]
        constructor
        · rintro (z | (⟨i, z⟩ | ⟨i, j, z⟩) | (⟨i, z⟩ | ⟨i, j, z⟩))
          · exact Or.inl z
          · exact Or.inr (Or.inl ⟨i, by omega, by omega, z.2.2⟩)
          · exact Or.inr (Or.inr ⟨i, j, by omega, z.2.1, by omega, z.2.2.2⟩)
          · exact Or.inr (Or.inl ⟨i, by omega, by omega, z.2.2⟩)
          · exact Or.inr (Or.inr ⟨i, j, by omega, z.2.1, by omega, z.2.2.2⟩)
        · have own : f < b → isO B f p (k' + 1) ∧ b = f + 1 := by
            intro z
            rcases ob with y | y
            · omega
            · exact ⟨y.2.2, y.1⟩
          rintro (z | ⟨i, i1, i2, z⟩ | ⟨i, j, i1, i2, i3, z⟩)
          · exact Or.inl z
          · by_cases c1 : i < b
            · obtain ⟨o1, o2⟩ := own (by omega)
              rw [show i = f by omega] at z
              exact Or.inl (z.trans (Prod.ext o1.1 o1.2))
            · by_cases c2 : i < h
              · exact Or.inr (Or.inl (Or.inl ⟨i, by omega, c2, z⟩))
              · exact Or.inr (Or.inr (Or.inl ⟨i, by omega, i2, z⟩))
          · have aj : (bk B j).1 < p + 2 ^ (k' + 1) := by
              have x := (hI.2 j (by omega) i3).2
              have y := pw_pos (32 - (bk B j).2.1)
              unfold en at x; omega
            by_cases c1 : i < b
            · obtain ⟨o1, o2⟩ := own (by omega)
              rw [show i = f by omega] at z
              exact absurd z (mee_own o1 hp aj)
            · by_cases c2 : j < h
              · exact Or.inr (Or.inl (Or.inr ⟨i, j, by omega, i2, c2, z⟩))
              · by_cases c3 : h ≤ i
                · exact Or.inr (Or.inr (Or.inr ⟨i, j, c3, i2, i3, z⟩))
                · refine Or.inl (mee_uniq z ⟨k', rfl, hp, (I1.2 i (by omega) (by omega)).1, h3 i (by omega) (by omega), (I2.2 j (by omega) i3).1, aj, InB_k I1 (by omega) (by omega), InB_k I2 (by omega) i3⟩)
