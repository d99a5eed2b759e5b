/-! the LEAST LINES are written -/
def cpL (A : List L3) : List L3 := A.take 65
theorem cpL_app {A : List L3} {q : L3} : (if (cpL A).length < 65 then cpL A ++ [q] else cpL A) = cpL (A ++ [q]) := by
  unfold cpL
  by_cases c : A.length < 65
  · have e : A.take 65 = A := List.take_of_length_le (by omega)
    rw [e, if_pos c, List.take_of_length_le (by rw [List.length_append, List.length_singleton]; omega)]
  · have e : (A.take 65).length = 65 := by rw [List.length_take]; omega
    rw [e, if_neg (Nat.lt_irrefl _), List.take_append_of_le_length (by omega)]
theorem m_writeIf {M : gMem} {A : List L3} (h : LB M 30 (cpL A)) {p k s c : Nat} (hs : isZ s) (hc : c ≤ 16) : ∃ M', mX5_writeIfNeeded M 30 (nI p) (nI (32 - k)) (nI s) (nI c) = some (nI (goes s c), M') ∧ Off 30 4 M M' ∧ LB M' 30 (cpL (A ++ ownL s c p k)) := by
  rw [mX5_writeIfNeeded, m_one hc]
  by_cases g : hasG s c
  · rw [if_neg (fun q => (m_test hs).mp q g), goes_in g, ownL_in g, List.append_nil]
    exact ⟨M, rfl, Off.rf, h⟩
  · rw [if_pos ((m_test hs).mpr g), m_leastOf hs, Option.bind_some]
    obtain ⟨M', e1, e2, e3⟩ := m_append h (a := p) (n := 32 - k) (g := lowB s)
    rw [e1, Option.bind_some]
    rw [ln30, cpL_app] at e3
    refine ⟨M', ?_, e2, ?_⟩
    · rw [show goes s c = lowB s from if_neg g]
    · rw [show ownL s c p k = [(p, 32 - k, lowB s)] from if_neg g]; exact e3
theorem al_mul {p k : Nat} (h : p % 2 ^ k = 0) : p = 2 ^ k * (p / 2 ^ k) := by
  have := Nat.div_add_mod p (2 ^ k)
  rw [h, Nat.add_zero] at this
  exact this.symm
theorem or_half {p k : Nat} (h : p % 2 ^ (k + 1) = 0) : p ||| 2 ^ k = p + 2 ^ k := by
  have e := al_mul h
  rw [e]
  exact (Nat.two_pow_add_eq_or_of_lt (by have := pw_succ k; have := pw_pos k; omega) _).symm
theorem xor_half {p k : Nat} (h : p % 2 ^ (k + 1) = 0) : p ^^^ 2 ^ k = p + 2 ^ k := by
  have e := al_mul h
  have lt : 2 ^ k < 2 ^ (k + 1) := by have := pw_succ k; have := pw_pos k; omega
  refine Nat.eq_of_testBit_eq (fun j => ?_)
  have a := Nat.testBit_two_pow_mul_add (p / 2 ^ (k + 1)) lt j
  have b := Nat.testBit_two_pow_mul_add (p / 2 ^ (k + 1)) (pw_pos (k + 1)) j
  rw [← e] at a
  rw [Nat.add_zero, ← e] at b
  rw [Nat.testBit_xor, a, b]
  by_cases c : j < k + 1
  · rw [if_pos c, if_pos c, Nat.zero_testBit, Bool.false_xor]
  · rw [if_neg c, if_neg c, Nat.testBit_two_pow_of_ne (by omega), Bool.xor_false]
theorem twin {q k : Nat} (h : q % 2 ^ k = 0) : (q % 2 ^ (k + 1) = 0 ∧ q ^^^ 2 ^ k = q + 2 ^ k ∧ (q + 2 ^ k) &&& 2 ^ k ≠ 0) ∨ ∃ s, q = s + 2 ^ k ∧ s % 2 ^ (k + 1) = 0 ∧ q ^^^ 2 ^ k = s ∧ s &&& 2 ^ k = 0 := by
  have p2 := pw_succ k
  have pos := pw_pos k
  have hi : ∀ s, s % 2 ^ (k + 1) = 0 → (s + 2 ^ k) &&& 2 ^ k ≠ 0 := fun s hs z => by
    have := (bit_half hs (show s ≤ s + 2 ^ k by omega) (by omega)).mp z; omega
  by_cases c : q % 2 ^ (k + 1) = 0
  · exact Or.inl ⟨c, xor_half c, hi q c⟩
  · have d := div_in q (k + 1)
    have al : q / 2 ^ (k + 1) * 2 ^ (k + 1) % 2 ^ (k + 1) = 0 := Nat.mul_mod_left _ _
    have s0 : q / 2 ^ (k + 1) * 2 ^ (k + 1) < q := by
      rcases Nat.lt_or_ge (q / 2 ^ (k + 1) * 2 ^ (k + 1)) q with z | z
      · exact z
      · exact absurd (by rw [show q = q / 2 ^ (k + 1) * 2 ^ (k + 1) by omega]; exact Nat.mul_mod_left _ _) c
    have s1 := al_le (al_half al).1 h s0
    have s2 : q = q / 2 ^ (k + 1) * 2 ^ (k + 1) + 2 ^ k := by
      rcases Nat.lt_or_ge (q / 2 ^ (k + 1) * 2 ^ (k + 1) + 2 ^ k) q with z | z
      · have := al_le (al_half al).2 h z; omega
      · omega
    refine Or.inr ⟨_, s2, al, ?_, (bit_half al (Nat.le_refl _) (by omega)).mpr (by omega)⟩
    have x := xor_half al
    rw [← s2] at x
    have y : (q / 2 ^ (k + 1) * 2 ^ (k + 1) ^^^ 2 ^ k) ^^^ 2 ^ k = q / 2 ^ (k + 1) * 2 ^ (k + 1) := by rw [Nat.xor_assoc, Nat.xor_self, Nat.xor_zero]
    rw [x] at y
    exact y
theorem m_writeNode {F : Nat → Nat} (hF : ∀ x, F x ≤ 16) {sz : Nat} (hs2 : sz ≤ 256) : ∀ D d (M : gMem) (i e p k c dep : Nat) (A : List L3), k < D → GT M F d i e p k → dep + k ≤ 32 → e ≤ sz → M.1 34 6 = nI sz → c ≤ 16 → LB M 30 (cpL A) → ∃ M', mX5_writeNode D M 30 (nI i) (nI c) (nI dep) = some M' ∧ Off 30 4 M M' ∧ LB M' 30 (cpL (A ++ mleast F k p c)) := by
  intro D
  induction D with
  | zero => intro d M i e p k c dep A h; omega
  | succ D ih =>
    intro d M i e p k c dep A hkD hG hdep hes hsz hc hA
    cases d with
    | zero => exact absurd hG id
    | succ d =>
    obtain ⟨⟨a1, a2, a3, a4, a5, a6, a7, a8⟩, g, m, h1, h2, h3, h4, h5, h6⟩ := id hG
    have i256 : i < 256 := by omega
    -- a side
    have side : ∀ k', k = k' + 1 → ∀ (M1 : gMem) (A1 : List L3) (v : Int32) (u e1 r c' : Nat), (∀ w, 34 ≤ w → w ≤ 40 → M1.1 w = M.1 w) → e1 ≤ sz → GS (GT M1 F d) F v u e1 r k' g → r % 2 ^ k' = 0 → c' ≤ 16 → LB M1 30 (cpL A1) → ∃ M', mX5_writeSide (mX5_writeNode D) M1 30 (nI i) v (nI r) (nI c') (nI dep) = some M' ∧ Off 30 4 M1 M' ∧ LB M' 30 (cpL (A1 ++ mleast F k' r c')) := by
      intro k' ek M1 A1 v u e1 r c' hm he1 hS hr hc' hA1
      subst ek
      have x34 : M1.1 34 6 = nI sz := by rw [hm 34 (by omega) (by omega)]; exact hsz
      have x36 : M1.1 36 i = nI (32 - (k' + 1)) := by rw [hm 36 (by omega) (by omega)]; exact a7
      have x37 : M1.1 37 i = nI g := by rw [hm 37 (by omega) (by omega)]; exact h2
      have st := m_setOfSide hF i256 a3 x36 x37 h1 x34 he1 hs2 hS
      rw [mX5_writeSide, ckI i256 (by omega), nI_cl (by omega), x36, nI_1, nmd, show 32 - (k' + 1) + 1 = 32 - k' by omega]
      rcases hS with ⟨b1, b2, b3⟩ | ⟨q, kq, b1, b2, b3, b4, b5⟩
      · subst b1
        rw [if_pos (by decide), mX5_writeSide_46, st, Option.bind_some]
        obtain ⟨M2, e1, e2, e3⟩ := m_writeIf hA1 (p := r) (k := k') (mset_isZ hF k' r) hc'
        rw [e1, Option.bind_some, if_pos (by decide)]
        rw [mset_const k' r b3, ← mleast_const h1 k' r c' b3] at e3
        exact ⟨M2, rfl, e2, e3⟩
      · subst b1
        have u256 : u < 256 := by omega
        cases d with
        | zero => exact absurd b5 id
        | succ d =>
        obtain ⟨⟨f1, f2, f3, f4, f5, f6, f7, f8⟩, _⟩ := id b5
        rw [if_neg (nI_pos (by omega)), x34, if_neg (nI_ge (show u < sz by omega) (by omega)), ckI u256 (by omega), nI_cl (by omega), f7]
        by_cases ke : kq = k'
        · subst ke
          have er := aside_0 b4
          subst er
          rw [if_pos rfl, nI_1]
          obtain ⟨M2, e1, e2, e3⟩ := ih (d + 1) M1 u e1 r kq c' (dep + 1) A1 (by omega) b5 (by omega) he1 x34 hc' hA1
          rw [e1, Option.bind_some]
          exact ⟨M2, rfl, e2, e3⟩
        · rw [if_neg (fun z => ke (by have := (nI_inj (by omega) (by omega)).mp z; omega)), mX5_writeSide_46, st, Option.bind_some]
          obtain ⟨M2, w1, w2, w3⟩ := m_writeIf hA1 (p := r) (k := k') (mset_isZ hF k' r) hc'
          have g2 : goes (mset F k' r) c' ≤ 16 := goes_le (mset_isZ hF k' r)
          have m2 : ∀ w, 34 ≤ w → M2.1 w = M1.1 w := fun w hw => (w2 w (by omega)).1
          rw [w1, Option.bind_some]
          show ∃ M', (if nI u < 0 then _ else (if (M2.1 34 6) ≤ nI u then _ else ((mX5_writeWithTwin (mX5_writeNode D) M2 30 (nI i) (nI u) (nI (goes (mset F k' r) c')) (nI dep)).bind _))) = _ ∧ _
          rw [if_neg (nI_pos (by omega)), m2 34 (by omega), x34, if_neg (nI_ge (show u < sz by omega) (by omega)), mX5_writeWithTwin, ckI u256 (by omega), nI_cl (by omega), m2 36 (by omega), f7, nmd, show (1 : Int32) = nI 1 from rfl, pk_sub (by omega), m_bitAt (by omega), show 31 - (32 - kq - 1) = kq by omega, Option.bind_some, ckI u256 (by omega), m2 35 (by omega), f6, nI_xor, nmd, ckI i256 (by omega), nI_cl (by omega), m2 37 (by omega), x37, show nI 1 <<< (nI g &&& 31) = nI (2 ^ g) from m_one h1, nmd]
          have G2 : GT M2 F (d + 1) u e1 q kq := GT_mem _ _ _ _ _ (fun w w1 w2 j _ _ => by rw [m2 w (by omega)]) b5
          have z2 : M2.1 34 6 = nI sz := by rw [m2 34 (by omega)]; exact x34
          -- the child and then what it may be joined by
          have lowF : ∀ (T : List L3) (tw : Nat), tw < 4294967296 → ∃ M', ((mX5_writeIfNeeded M2 30 (nI tw) (nI (32 - kq)) (nI (2 ^ g)) (nI (goes (mset F k' r) c'))).bind fun r11 => (mX5_writeNode D r11.2 30 (nI u) (nI (goes (mset F k' r) c')) (nI dep + nI 1)).bind fun r12 => some r12) = some M' ∧ Off 30 4 M1 M' ∧ LB M' 30 (cpL (A1 ++ (ownL (mset F k' r) c' r k' ++ (ownL (2 ^ g) (goes (mset F k' r) c') tw kq ++ mleast F kq q (goes (mset F k' r) c'))))) := by
            intro T tw htw
            obtain ⟨M3, y1, y2, y3⟩ := m_writeIf w3 (p := tw) (k := kq) (isZ_pow h1) g2
            have m3 : ∀ w, 34 ≤ w → M3.1 w = M2.1 w := fun w hw => (y2 w (by omega)).1
            obtain ⟨M4, v1, v2, v3⟩ := ih (d + 1) M3 u e1 q kq (goes (mset F k' r) c') (dep + 1) _ (by omega) (GT_mem _ _ _ _ _ (fun w w1 w2 j _ _ => by rw [m3 w (by omega)]) G2) (by omega) he1 (by rw [m3 34 (by omega)]; exact z2) g2 y3
            rw [y1, Option.bind_some, nI_add]
            show ∃ M', ((mX5_writeNode D M3 30 (nI u) (nI (goes (mset F k' r) c')) (nI (dep + 1))).bind _) = _ ∧ _
            rw [v1, Option.bind_some]
            refine ⟨M4, rfl, (w2.tr y2).tr v2, ?_⟩
            rw [List.append_assoc, List.append_assoc] at v3
            exact v3
          have highF : ∀ (tw : Nat), tw < 4294967296 → ∃ M', ((mX5_writeNode D M2 30 (nI u) (nI (goes (mset F k' r) c')) (nI dep + nI 1)).bind fun r9 => (mX5_writeIfNeeded r9 30 (nI tw) (nI (32 - kq)) (nI (2 ^ g)) (nI (goes (mset F k' r) c'))).bind fun r10 => some r10.2) = some M' ∧ Off 30 4 M1 M' ∧ LB M' 30 (cpL (A1 ++ (ownL (mset F k' r) c' r k' ++ (mleast F kq q (goes (mset F k' r) c') ++ ownL (2 ^ g) (goes (mset F k' r) c') tw kq)))) := by
            intro tw htw
            obtain ⟨M4, v1, v2, v3⟩ := ih (d + 1) M2 u e1 q kq (goes (mset F k' r) c') (dep + 1) _ (by omega) G2 (by omega) he1 z2 g2 w3
            obtain ⟨M3, y1, y2, y3⟩ := m_writeIf v3 (p := tw) (k := kq) (isZ_pow h1) g2
            rw [nI_add, v1, Option.bind_some, y1, Option.bind_some]
            refine ⟨M3, rfl, (w2.tr v2).tr y2, ?_⟩
            rw [List.append_assoc, List.append_assoc] at y3
            exact y3
          have qb : q + 2 ^ kq ≤ 4294967296 := f5
          have pq := pw_pos kq
          obtain ⟨j, ej⟩ : ∃ j, k' = kq + j := ⟨k' - kq, by omega⟩
          subst ej
          have tj : ∃ j', j = j' + 1 := ⟨j - 1, by omega⟩
          obtain ⟨j', ej'⟩ := tj
          subst ej'
          have andl : ∀ x y : Nat, x &&& y ≤ y := fun x y => Nat.and_le_right
          have pk := pw_le (show kq ≤ 32 by omega)
          have k31 : kq < 32 := by omega
          have pk2 := pw_lt k31
          rw [p32] at pk2
          cases j' with
          | zero =>
            have es : mset F (kq + (0 + 1)) r = bth (mset F kq q) (2 ^ g) := by rw [mset_up (0 + 1) r b4, if_neg (by omega), if_pos rfl]
            rcases mleast_up1 h1 c' (show aside F g kq q (kq + 1) r from b4) with ⟨u1, u2⟩ | ⟨u1, u2⟩
            · subst u1
              have tw := xor_half (p := q) (k := kq) b4.2.1
              have b := b4.2.2.2.1
              have p2 := pw_succ kq
              have bit : (q + 2 ^ kq) &&& 2 ^ kq ≠ 0 := fun z => by
                have := (bit_half (p := q) (k := kq) b4.2.1 (show q ≤ q + 2 ^ kq by omega) (by omega)).mp z; omega
              rw [tw, nI_and, if_neg (show ¬ nI ((q + 2 ^ kq) &&& 2 ^ kq) = 0 from fun z => bit ((nI_inj (b := 0) (by have := andl (q + 2 ^ kq) (2 ^ kq); omega) (by omega)).mp z))]
              have b' : q + 2 ^ kq ≤ q + 2 ^ (kq + 1) := b
              have top : q + 2 ^ (kq + 1) ≤ 4294967296 := by
                rcases Nat.lt_or_ge 4294967296 (q + 2 ^ (kq + 1)) with z | z
                · have al : (4294967296 : Nat) % 2 ^ (kq + 1) = 0 := mod_pw (show kq + 1 ≤ 32 by omega) (show 4294967296 % 2 ^ 32 = 0 by decide)
                  have := al_le (m := 2 ^ (kq + 1)) b4.2.1 al (by omega)
                  omega
                · exact z
              obtain ⟨M', r1, r2, r3⟩ := highF (q + 2 ^ kq) (by omega)
              rw [r1, Option.bind_some]
              refine ⟨M', rfl, r2, ?_⟩
              rw [es] at r3
              rw [show kq + (0 + 1) = kq + 1 from rfl, u2]
              exact r3
            · have rb : r &&& 2 ^ kq = 0 := (bit_half (p := r) (k := kq) b4.2.1 (Nat.le_refl _) (by have := pw_pos (kq + 1); omega)).mpr (by omega)
              have tw : q ^^^ 2 ^ kq = r := by
                have x := xor_half (p := r) (k := kq) b4.2.1
                rw [u1, ← x, Nat.xor_assoc, Nat.xor_self, Nat.xor_zero]
              rw [tw, nI_and, rb, if_pos (show nI 0 = 0 from rfl)]
              obtain ⟨M', r1, r2, r3⟩ := lowF [] r (by omega)
              rw [r1, Option.bind_some]
              refine ⟨M', rfl, r2, ?_⟩
              rw [es] at r3
              rw [show kq + (0 + 1) = kq + 1 from rfl, u2]
              exact r3
          | succ j' =>
            have es : mset F (kq + (j' + 1 + 1)) r = 2 ^ g := by rw [mset_up (j' + 1 + 1) r b4, if_neg (by omega), if_neg (by omega)]
            have ml := mleast_up2 h1 c' (show aside F g kq q (kq + (j' + 2)) r from b4)
            have gg : goes (2 ^ g) c' = g := goes_pow h1
            have nil : ∀ tw, ownL (2 ^ g) g tw kq = [] := fun tw => ownL_in (has_pow.mpr rfl)
            rcases twin b4.1 with ⟨t1, t2, t3⟩ | ⟨s, t1, t2, t3, t4⟩
            · have tl : q + 2 ^ kq < 4294967296 := by
                have p2 := pw_succ kq
                have al : (4294967296 : Nat) % 2 ^ (kq + 1) = 0 := mod_pw (show kq + 1 ≤ 32 by omega) (show 4294967296 % 2 ^ 32 = 0 by decide)
                have := al_le t1 al (by omega)
                omega
              rw [t2, nI_and, if_neg (show ¬ nI ((q + 2 ^ kq) &&& 2 ^ kq) = 0 from fun z => t3 ((nI_inj (b := 0) (by have := andl (q + 2 ^ kq) (2 ^ kq); omega) (by omega)).mp z))]
              obtain ⟨M', r1, r2, r3⟩ := highF (q + 2 ^ kq) tl
              rw [r1, Option.bind_some]
              refine ⟨M', rfl, r2, ?_⟩
              rw [es, gg, nil, List.append_nil] at r3
              rw [show kq + (j' + 1 + 1) = kq + (j' + 2) from rfl, ml]
              exact r3
            · rw [t3, nI_and, t4, if_pos (show nI 0 = 0 from rfl)]
              obtain ⟨M', r1, r2, r3⟩ := lowF [] s (by omega)
              rw [r1, Option.bind_some]
              refine ⟨M', rfl, r2, ?_⟩
              rw [es, gg, nil, List.nil_append] at r3
              rw [show kq + (j' + 1 + 1) = kq + (j' + 2) from rfl, ml]
              exact r3
    rw [mX5_writeNode, mX5_writeNode_b, if_neg (nI_pos (by omega)), hsz, if_neg (nI_ge (show i < sz by omega) (by omega)), if_pos (show nI dep ≤ (32 : Int32) from nI_le (b := 32) (by omega) (by omega)), ckI i256 (by omega), ckI i256 (by omega), ckI i256 (by omega), nI_cl (by omega), a6, a7, a8]
    obtain ⟨M1, w1, w2, w3⟩ := m_writeIf hA (p := p) (k := k) (mset_isZ hF k p) hc
    have g2 : goes (mset F k p) c ≤ 16 := goes_le (mset_isZ hF k p)
    have m1 : ∀ w, 34 ≤ w → M1.1 w = M.1 w := fun w hw => (w2 w (by omega)).1
    rw [w1, Option.bind_some, ckI i256 (by omega)]
    show ∃ M', (if M1.1 38 i = -1 then (ck (inb (nI i) 256) <| if M1.1 39 i = -1 then some M1 else mX5_writeNode_66 (mX5_writeNode D) M1 30 (nI i) (nI dep) (nI (goes (mset F k p) c))) else mX5_writeNode_66 (mX5_writeNode D) M1 30 (nI i) (nI dep) (nI (goes (mset F k p) c))) = _ ∧ _
    rw [m1 38 (by omega), m1 39 (by omega), ckI i256 (by omega)]
    cases k with
    | zero =>
      obtain ⟨x1, x2, x3⟩ := h5 rfl
      rw [x2, x3, if_pos rfl, if_pos rfl]
      exact ⟨M1, rfl, w2, w3⟩
    | succ k' =>
      obtain ⟨s1, s2⟩ := h6 k' rfl
      have p2 := pw_succ k'
      have alh := al_half a4
      have go : ∃ M', mX5_writeNode_66 (mX5_writeNode D) M1 30 (nI i) (nI dep) (nI (goes (mset F (k' + 1) p) c)) = some M' ∧ Off 30 4 M M' ∧ LB M' 30 (cpL (A ++ mleast F (k' + 1) p c)) := by
        rw [mX5_writeNode_66, ckI i256 (by omega), ckI i256 (by omega), nI_cl (by omega), m1 38 (by omega), m1 35 (by omega), a6]
        obtain ⟨M2, y1, y2, y3⟩ := side k' rfl M1 _ (M.1 38 i) (i + 1) m p (goes (mset F (k' + 1) p) c) (fun w x1 x2 => m1 w (by omega)) (by omega) (GS_mem (fun w x1 x2 j _ _ => by rw [m1 w (by omega)]) s1) alh.1 g2 w3
        have m2 : ∀ w, 34 ≤ w → M2.1 w = M.1 w := fun w hw => ((y2 w (by omega)).1).trans (m1 w hw)
        rw [y1, Option.bind_some, ckI i256 (by omega), ckI i256 (by omega), ckI i256 (by omega), m2 36 (by omega), a7, m_bitAt (by omega), show 31 - (32 - (k' + 1)) = k' by omega, Option.bind_some, m2 39 (by omega), m2 35 (by omega), a6, nI_or, or_half a4]
        obtain ⟨M3, v1, v2, v3⟩ := side k' rfl M2 _ (M.1 39 i) m e (p + 2 ^ k') (goes (mset F (k' + 1) p) c) (fun w x1 x2 => m2 w (by omega)) hes (GS_mem (fun w x1 x2 j _ _ => by rw [m2 w (by omega)]) s2) alh.2 g2 y3
        rw [v1, Option.bind_some]
        refine ⟨M3, rfl, (w2.tr y2).tr v2, ?_⟩
        rw [List.append_assoc, List.append_assoc] at v3
        rw [mleast]
        exact v3
      by_cases c1 : M.1 38 i = -1
      · rw [if_pos c1]
        by_cases c2 : M.1 39 i = -1
        · rw [if_pos c2]
          have con : ∀ x, p ≤ x → x < p + 2 ^ (k' + 1) → F x = g := by
            intro x x1 x2
            have neg : ∀ u : Nat, u < 256 → ¬ nI u = -1 := fun u hu => nI_m1 (by omega)
            rcases s1 with ⟨_, _, q1⟩ | ⟨q, kq, q1, q2, _⟩
            · rcases s2 with ⟨_, _, q2⟩ | ⟨q, kq, q1, q2, _⟩
              · by_cases z : x < p + 2 ^ k'
                · exact q1 x x1 z
                · exact q2 x (by omega) (by omega)
              · exact absurd (q1.symm.trans c2) (neg m (by omega))
            · exact absurd (q1.symm.trans c1) (neg (i + 1) (by omega))
          refine ⟨M1, rfl, w2, ?_⟩
          rw [mset_const (k' + 1) p con, ← mleast_const h1 (k' + 1) p c con] at w3
          exact w3
        · rw [if_neg c2]; exact go
      · rw [if_neg c1]; exact go
