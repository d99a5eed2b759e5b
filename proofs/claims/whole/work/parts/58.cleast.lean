/-! the class: a BOOK becomes the LEAST LINES -/
theorem m_plantWhole {M : gMem} {l : Nat} {B : List L3} (hl : l + 4 ≤ 34) (hL : LB M l B) (hw : wfB B) (h128 : B.length ≤ 128) : ∃ (M' : gMem) (e : Nat) (Ns : List P2), mX5_plantWhole M l = some M' ∧ Off 34 7 M M' ∧ M'.1 34 6 = nI e ∧ 0 < e ∧ e ≤ 256 ∧ GT M' (leads B) 33 0 e 0 32 ∧ Ns.length = e ∧ Ns.Nodup ∧ ∀ q, q ∈ Ns ↔ (q = (0, 32) ∨ lnM B 0 B.length q) := by
  have o1 : Off 34 7 M (sI M 34 6 0) := sI_Off (by omega)
  have L1 := hL.off o1 (Or.inl hl)
  obtain ⟨M', e, Ns, g1, g2, g3, g4, g5, g6, g7, g8, g9, g10, g11⟩ := m_grow hl hw 40 32 (sI M 34 6 0) 0 B.length 0 16 0 256 (by omega) (Nat.zero_le _) L1 (InB_all hw) (by omega) (by omega) (by omega) (by omega) (by rw [sI1, if_pos ⟨rfl, rfl⟩]; rfl) ⟨by omega, Or.inl (by omega)⟩ (by omega)
  rw [mX5_plantWhole, nmd, L1.2.2.1]
  have g1' : mX5_grow 40 (sI M 34 6 0) l 0 (nI B.length) 0 0 16 = _ := g1
  rw [g1', Option.bind_some]
  refine ⟨M', e, Ns, rfl, o1.tr g2, g3, g4, by omega, ?_, by omega, g9, g11⟩
  rw [leads_fun]; exact g6
def bigO (l2 : Nat) (M M' : gMem) : Prop := ∀ k, (k < 30 ∨ 41 ≤ k) → (k < l2 ∨ l2 + 4 ≤ k) → M'.1 k = M.1 k ∧ M'.2 k = M.2 k
theorem m_becomeLeast {M : gMem} {l l2 : Nat} {B B2 : List L3} (hl : l + 4 ≤ 30) (hL : LB M l B) (hw : wfB B) (h128 : B.length ≤ 128) (hl2 : l2 + 4 ≤ 30) (ln2 : lnOf l2 = 64) (hL2 : LB M l2 B2) (h30 : ∃ T, LB M 30 T) : ∃ M', (∃ T, LB M' 30 T) ∧ bigO l2 M M' ∧ (((mleast (leads B) 32 0 16).length ≤ 64 ∧ mX7_becomeLeast M l l2 = some (nI (mleast (leads B) 32 0 16).length, M') ∧ LB M' l2 (mleast (leads B) 32 0 16)) ∨ (64 < (mleast (leads B) 32 0 16).length ∧ mX7_becomeLeast M l l2 = some (-2, M') ∧ LB M' l2 B2)) := by
  obtain ⟨M1, e, Ns, g1, g2, g3, g4, g5, g6, g7, g8, g9⟩ := m_plantWhole (by omega) hL hw h128
  obtain ⟨T0, hT0⟩ := h30
  have t1 : LB M1 30 T0 := hT0.off g2 (by omega)
  obtain ⟨M2, c1, c2, c3⟩ := m_clear t1
  have m2 : ∀ w, 34 ≤ w → M2.1 w = M1.1 w := fun w hw => (c2 w (by omega)).1
  have hF : ∀ x, leads B x ≤ 16 := leads_le hw
  obtain ⟨M3, w1, w2, w3⟩ := m_writeNode hF g5 40 33 M2 0 e 0 32 16 0 [] (by omega) (GT_mem _ _ _ _ _ (fun w x1 x2 j _ _ => by rw [m2 w (by omega)]) g6) (by omega) (Nat.le_refl _) (by rw [m2 34 (by omega)]; exact g3) (by omega) c3
  rw [List.nil_append] at w3
  rw [mX7_becomeLeast, g1, Option.bind_some, mX5_writeLeast, c1, Option.bind_some]
  have w1' : mX5_writeNode 40 M2 30 0 16 0 = some M3 := w1
  rw [w1', Option.bind_some, Option.bind_some, w3.2.2.1]
  have o3 : bigO l2 M M3 := fun k k1 k2 => ⟨((w2 k (by omega)).1.trans (c2 k (by omega)).1).trans (g2 k (by omega)).1, ((w2 k (by omega)).2.trans (c2 k (by omega)).2).trans (g2 k (by omega)).2⟩
  have L3 : LB M3 l2 B2 := ((hL2.off g2 (by omega)).off c2 (by omega)).off w2 (by omega)
  generalize mleast (leads B) 32 0 16 = Ll at w3
  have lc : (cpL Ll).length = min 65 Ll.length := by unfold cpL; rw [List.length_take]
  by_cases c : Ll.length ≤ 64
  · have ec : cpL Ll = Ll := List.take_of_length_le (by omega)
    rw [ec] at w3 ⊢
    rw [if_pos (show nI Ll.length ≤ (64 : Int32) from nI_le (b := 64) c (by omega))]
    obtain ⟨M4, b1, b2, b3⟩ := m_become L3 w3 (by omega) (by omega)
    rw [b1, Option.bind_some, b3.2.2.1]
    exact ⟨M4, ⟨_, w3.off b2 (by omega)⟩, fun k k1 k2 => ⟨(b2 k (by omega)).1.trans (o3 k k1 k2).1, (b2 k (by omega)).2.trans (o3 k k1 k2).2⟩, Or.inl ⟨c, rfl, b3⟩⟩
  · rw [if_neg (show ¬ nI (cpL Ll).length ≤ (64 : Int32) from nI_ge (a := 64) (by omega) (by omega))]
    exact ⟨M3, ⟨_, w3⟩, o3, Or.inr ⟨by omega, rfl, L3⟩⟩
