/-! book -/
def aWc (W V : aWr) : aWr := (W.1 ++ V.1, W.2.1 ++ V.2.1, W.2.2 ++ V.2.2)
theorem aFr.c {W V : aWr} {S T U : aSt} (f : aFr W S T) (g : aFr V T U) : aFr (aWc W V) S U :=
  ⟨fun k j q => (g.1 k j (fun z => q (List.mem_append_right _ z))).trans (f.1 k j (fun z => q (List.mem_append_left _ z))), fun k j q => (g.2.1 k j (fun z => q (List.mem_append_right _ z))).trans (f.2.1 k j (fun z => q (List.mem_append_left _ z))), fun k q => (g.2.2 k (fun z => q (List.mem_append_right _ z))).trans (f.2.2 k (fun z => q (List.mem_append_left _ z)))⟩
theorem m_take_l {N L : Nat} (hL : L ≤ 10) : ∀ (r l q f1 f2 : Nat) (S T : aSt), l + r = L → r < f1 → r < f2 → rdL L S T → rQ S T → S.1 8 4 = nI q → S.1 1 1 = nI L → T.1 42 3 = nI L → ∃ S' T' q', X2_take_8_1_l2 N f1 (nI l) S = some S' ∧ X11_book_42_l13 N f2 (nI l) T = some (nI L, T') ∧ rQ S' T' ∧ S'.1 8 4 = nI q' ∧ q < q' ∧ q' ≤ q + r + 1 ∧ S'.1 1 1 = nI L ∧ T'.1 42 1 = 0 := by
  intro r
  induction r with
  | zero =>
    intro l q f1 f2 S T hl h1 h2 hR hQ hq h11 h3
    obtain ⟨f1, rfl⟩ : ∃ q, f1 = q + 1 := ⟨f1 - 1, by omega⟩
    obtain ⟨f2, rfl⟩ : ∃ q, f2 = q + 1 := ⟨f2 - 1, by omega⟩
    have fS : aFr ([(8, 4)], [], []) S (aI S 8 4 (nI (q + 1))) := aFr.rf.I 8 4 _ (by decide)
    have fT : aFr ([(42, 1)], [], []) T (aI T 42 1 0) := aFr.rf.I 42 1 _ (by decide)
    refine ⟨aI S 8 4 (nI (q + 1)), aI T 42 1 0, q + 1, ?_, ?_, ⟨hQ.1.fr fS fT (by decide), hQ.2.1.fr fS fT (by decide) (by decide), hQ.2.2.fr fS fT (by decide)⟩, by rw [gI, if_pos ⟨rfl, rfl⟩], by omega, by omega, by rw [gI, if_neg (by decide)]; exact h11, by rw [gI, if_pos ⟨rfl, rfl⟩]⟩
    · show X2_take_8_1_b2 N (X2_take_8_1_l2 N f1) _ _ = _
      unfold X2_take_8_1_b2 X2_take_8_1_b22
      rw [h11, if_pos (by exact iLE L l (by omega)), hq, nI_1]
    · show X11_book_42_b13 N (X11_book_42_l13 N f2) _ _ = _
      unfold X11_book_42_b13 X11_book_42_b34
      rw [h3, if_pos (by exact iLE L l (by omega))]
  | succ r ih =>
    intro l q f1 f2 S T hl h1 h2 hR hQ hq h11 h3
    obtain ⟨f1, rfl⟩ : ∃ q, f1 = q + 1 := ⟨f1 - 1, by omega⟩
    obtain ⟨f2, rfl⟩ : ∃ q, f2 = q + 1 := ⟨f2 - 1, by omega⟩
    obtain ⟨w, hw, w6, w44, wD⟩ := hR l (by omega)
    obtain ⟨S1, T1, q1, c1, c2, hQ1, hq1, a1, a2⟩ := m_lay (N := N) (show l < 10 by omega) hw w6 w44 wD hQ hq
    have fS := F_X2_takeLine_8_1 _ _ _ c1
    have fT := F_X11_lay_42 _ _ _ c2
    have hR1 : rdL L S1 T1 := by
      intro j hj
      obtain ⟨w', hw', w6', w44', wD'⟩ := hR j hj
      refine ⟨w', hw', by rw [fS.2.2 6 (by decide)]; exact w6', by rw [fT.2.2 44 (by decide)]; exact w44', lnD.ag (n := L) (fun i _ => by rw [fS.2.2 7 (by decide)]) (fun i _ => by rw [fT.2.2 44 (by decide)]) hj wD'⟩
    obtain ⟨S', T', q', d1, d2, d3, d4, d5, d6, d7, d8⟩ := ih (l + 1) q1 f1 f2 S1 T1 (by omega) (by omega) (by omega) hR1 hQ1 hq1 (by rw [fS.1 1 1 (by decide)]; exact h11) (by rw [fT.1 42 3 (by decide)]; exact h3)
    refine ⟨S', T', q', ?_, ?_, d3, d4, by omega, by omega, d7, d8⟩
    · show X2_take_8_1_b2 N (X2_take_8_1_l2 N f1) _ _ = _
      unfold X2_take_8_1_b2
      rw [h11, if_neg (by exact iNLE L l (by omega)), c1]
      simp only [Option.bind_some]
      rw [nI_1]
      exact d1
    · show X11_book_42_b13 N (X11_book_42_l13 N f2) _ _ = _
      unfold X11_book_42_b13
      rw [h3, if_neg (by exact iNLE L l (by omega)), m_50, c2]
      simp only [Option.bind_some]
      rw [nI_1]
      exact d2
theorem m_book {N c : Nat} {S : aSt} (hN : 3000 ≤ N) (hc : c < 2 ^ 30) (h : GR S c) : ∃ r S1 S2 c', X10_book_0 N S = some (r, S1) ∧ X11_book_42 N S1 = some (r, S2) ∧ GR S2 c' ∧ c ≤ c' ∧ c' ≤ c + 11 := by
  have h' := h
  obtain ⟨hT, hE, hO, hD, hB, hC⟩ := h
  obtain ⟨t, ht, h1, h2, h3⟩ := hT
  obtain ⟨R, Sa, Ta, a1, a2, a3⟩ := m_read (N := N) (by omega) ht h1 h2 h3
  have fa := F_X9_read_1 _ _ a1
  have fTa := F_X11_fault_42 _ _ a2
  have hQ : rQ S S := ⟨hE, hO, hD⟩
  by_cases cR : R = -1
  · subst cR
    obtain ⟨L, hL, l1, l2, l3⟩ := a3 rfl
    have hqa : Sa.1 8 4 = nI c := by rw [fa.1 8 4 (by decide)]; exact hC.2.2.1
    obtain ⟨Sb, Tb, q', d1, -, -, -, -, -, d7, -⟩ := m_take_l (N := N) hL L 0 c N N Sa Ta (by omega) (by omega) (by omega) l3 ⟨hQ.1.fr fa fTa (by decide), hQ.2.1.fr fa fTa (by decide) (by decide), hQ.2.2.fr fa fTa (by decide)⟩ hqa l1 l2
    have run : X10_book_0 N S = some (nI L, aI Sb 1 0 0) := by
      unfold X10_book_0
      rw [a1]
      simp only [Option.bind_some]
      rw [if_pos trivial]
      have e : X2_take_8_1 N Sa = some Sb := d1
      rw [e]
      simp only [Option.bind_some]
      rw [d7]
    have fS1 := F_X10_book_0 _ _ run
    have fb1 : aFr ([(1, 0)], [], []) Sb (aI Sb 1 0 0) := aFr.rf.I 1 0 _ (by decide)
    have e10 : (aI Sb 1 0 0).1 1 0 = 0 := by rw [gI, if_pos ⟨rfl, rfl⟩]
    generalize aI Sb 1 0 0 = S1 at run fS1 fb1 e10
    obtain ⟨R', Sa', Tc, b1, b2, b3⟩ := m_read (N := N) (S := S) (T := S1) (by omega) ht h1 (by rw [fS1.1 42 1 (by decide)]; exact h2) (by rw [fS1.2.2 43 (by decide)]; exact h3)
    rw [a1] at b1
    have e := Option.some.inj b1
    have eR : (-1 : Int32) = R' := congrArg Prod.fst e
    have eS : Sa = Sa' := congrArg Prod.snd e
    subst eS
    rw [← eR] at b2
    obtain ⟨L', hL', l1', l2', l3'⟩ := b3 eR.symm
    have fTc := F_X11_fault_42 _ _ b2
    have hQ1 : rQ S S1 := ⟨hQ.1.fr (W := ([], [], [])) aFr.rf fS1 (by decide), hQ.2.1.fr (W := ([], [], [])) aFr.rf fS1 (by decide) (by decide), hQ.2.2.fr (W := ([], [], [])) aFr.rf fS1 (by decide)⟩
    obtain ⟨Sb', Td, q'', k1, k2, k3, k4, k5, k6, k7, k8⟩ := m_take_l (N := N) hL' L' 0 c N N Sa Tc (by omega) (by omega) (by omega) l3' ⟨hQ1.1.fr fa fTc (by decide), hQ1.2.1.fr fa fTc (by decide) (by decide), hQ1.2.2.fr fa fTc (by decide)⟩ hqa l1' l2'
    have d1' : X2_take_8_1_l2 N N (nI 0) Sa = some Sb := d1
    rw [d1'] at k1
    have eb := Option.some.inj k1
    subst eb
    have runR : X11_book_42 N S1 = some (nI L', Td) := by
      unfold X11_book_42
      rw [b2]
      simp only [Option.bind_some]
      rw [if_pos trivial]
      exact k2
    have fD := F_X11_book_42 _ _ runR
    have eL : nI L = nI L' := l1.symm.trans l1'
    refine ⟨nI L, S1, Td, q'', run, by rw [eL]; exact runR, ⟨⟨0, by omega, ?_, ?_, fun i hi => by omega⟩, ?_, ?_, ?_, ?_, ?_⟩, by omega, by omega⟩
    · rw [fD.1 1 0 (by decide), e10]; rfl
    · rw [k8]; rfl
    · have q1 : rE2 S1 Td := k3.1.fr (V := ([], [], [])) fb1 aFr.rf (by decide)
      exact q1.fr (V := ([], [], [])) fD aFr.rf (by decide)
    · have q1 : rO2 S1 Td := k3.2.1.fr (V := ([], [], [])) fb1 aFr.rf (by decide) (by decide)
      exact q1.fr (V := ([], [], [])) fD aFr.rf (by decide) (by decide)
    · have q1 : rD2 S1 Td := k3.2.2.fr (V := ([], [], [])) fb1 aFr.rf (by decide)
      exact q1.fr (V := ([], [], [])) fD aFr.rf (by decide)
    · exact (hB.fr fS1 (by decide)).fr fD (by decide)
    · refine hC.inc (fS1.c fD) (by decide) (by omega) (by omega) ?_
      rw [fD.1 8 4 (by decide), fb1.1 8 4 (by decide)]
      exact k4
  · have run : X10_book_0 N S = some (-4, Sa) := by
      unfold X10_book_0
      rw [a1]
      simp only [Option.bind_some]
      rw [if_neg cR]
    obtain ⟨R', Sa', Tb, b1, b2, b3⟩ := m_read (N := N) (S := S) (T := Sa) (by omega) ht h1 (by rw [fa.1 42 1 (by decide)]; exact h2) (by rw [fa.2.2 43 (by decide)]; exact h3)
    rw [a1] at b1
    have e := Option.some.inj b1
    have eR : R = R' := congrArg Prod.fst e
    rw [← eR] at b2
    have fb := F_X11_fault_42 _ _ b2
    have runR : X11_book_42 N Sa = some (-4, Tb) := by
      unfold X11_book_42
      rw [b2]
      simp only [Option.bind_some]
      rw [if_neg cR]
    exact ⟨-4, Sa, Tb, c, run, runR, (h'.fr fa (by decide)).fr fb (by decide), Nat.le_refl _, by omega⟩
/-! the others, with all that stays -/
theorem g_rC {W V : aWr} {S S1 S2 : aSt} {c : Nat} (hC : rC S c) (f1 : aFr W S S1) (f2 : aFr V S1 S2) (z : (22, 4) ∉ (aWc W V).1 ∧ (25, 4) ∉ (aWc W V).1 ∧ (0, 10) ∉ (aWc W V).1) (zV : okW V = true) (hv : (8, 4) ∉ V.1) (hor : S1 = S ∨ S1.1 8 4 = S.1 8 4 + 1) (hc : c < 2 ^ 30) : ∃ c', rC S2 c' ∧ c ≤ c' ∧ c' ≤ c + 11 := by
  rcases hor with e | e
  · subst e
    exact ⟨c, hC.fr f2 zV, Nat.le_refl _, by omega⟩
  · refine ⟨c + 1, hC.inc (f1.c f2) z (by omega) (by omega) ?_, by omega, by omega⟩
    rw [f2.1 8 4 hv, e, hC.2.2.1, nI_1]
theorem g_write {N c : Nat} (b : Int64) (x : Int32) {S : aSt} (hN : 5000 ≤ N) (h : GR S c) : ∃ r S1 S2, X10_write_0 N b x S = some (r, S1) ∧ X11_write_42 N b x S1 = some (r, S2) ∧ GR S2 c := by
  obtain ⟨hT, hE, hO, hD, hB, hC⟩ := h
  obtain ⟨r, S1, S2, a1, a2, a3⟩ := m_write hN b x hT
  have f1 := F_X10_write_0 _ _ _ _ a1
  have f2 := F_X11_write_42 _ _ _ _ a2
  exact ⟨r, S1, S2, a1, a2, a3, (hE.fr f1 (by decide)).fr f2 (by decide), (hO.fr f1 (by decide)).fr f2 (by decide), (hD.fr f1 (by decide)).fr f2 (by decide), (hB.fr f1 (by decide)).fr f2 (by decide), (hC.fr f1 (by decide)).fr f2 (by decide)⟩
theorem g_erase {c : Nat} {S : aSt} (h : GR S c) : ∃ r S1 S2, X10_erase_0 S = (r, S1) ∧ X11_erase_42 S1 = (r, S2) ∧ GR S2 c := by
  obtain ⟨hT, hE, hO, hD, hB, hC⟩ := h
  obtain ⟨a1, a2⟩ := m_erase hT
  have f1 := F_X10_erase_0 S rfl
  have f2 := F_X11_erase_42 (X10_erase_0 S).2 rfl
  refine ⟨(X10_erase_0 S).1, (X10_erase_0 S).2, (X11_erase_42 (X10_erase_0 S).2).2, rfl, ?_, a2, (hE.fr f1 (by decide)).fr f2 (by decide), (hO.fr f1 (by decide)).fr f2 (by decide), (hD.fr f1 (by decide)).fr f2 (by decide), (hB.fr f1 (by decide)).fr f2 (by decide), (hC.fr f1 (by decide)).fr f2 (by decide)⟩
  rw [a1]
theorem g_other {N c : Nat} (x : Int32) {S : aSt} (h : GR S c) : ∃ r S1 S2, X10_other_0 x S = (r, S1) ∧ X11_other_42 N x S1 = some (r, S2) ∧ GR S2 c := by
  obtain ⟨hT, hE, hO, hD, hB, hC⟩ := h
  obtain ⟨r, S2, a1, a2, a3⟩ := m_other N x hB
  have f1 := F_X10_other_0 x S rfl
  have f2 := F_X11_other_42 _ _ _ a2
  exact ⟨r, (X10_other_0 x S).2, S2, by rw [← a1], a2, (hT.fr f1 (by decide)).fr f2 (by decide), (hE.fr f1 (by decide)).fr f2 (by decide), (hO.fr f1 (by decide)).fr f2 (by decide), (hD.fr f1 (by decide)).fr f2 (by decide), a3, (hC.fr f1 (by decide)).fr f2 (by decide)⟩
theorem g_learn {N c : Nat} (x y : Int32) {S : aSt} (hc : c < 2 ^ 30) (h : GR S c) : ∃ r S1 S2 c', X10_learn_0 x y S = (r, S1) ∧ X11_learn_42 N x y S1 = some (r, S2) ∧ GR S2 c' ∧ c ≤ c' ∧ c' ≤ c + 11 := by
  obtain ⟨hT, hE, hO, hD, hB, hC⟩ := h
  obtain ⟨r, S1, S2, a1, a2, a3, a4⟩ := m_learn N x y hO
  have f1 := F_X10_learn_0 _ _ _ a1
  have f2 := F_X11_learn_42 _ _ _ _ a2
  obtain ⟨c', q1, q2, q3⟩ := g_rC hC f1 f2 (by decide) (by decide) (by decide) a4 hc
  exact ⟨r, S1, S2, c', a1, a2, ⟨(hT.fr f1 (by decide)).fr f2 (by decide), (hE.fr f1 (by decide)).fr f2 (by decide), a3, (hD.fr f1 (by decide)).fr f2 (by decide), (hB.fr f1 (by decide)).fr f2 (by decide), q1⟩, q2, q3⟩
theorem g_mend {N c : Nat} (x y z : Int32) {S : aSt} (hN : 5000 ≤ N) (hc : c < 2 ^ 30) (h : GR S c) : ∃ r S1 S2 c', X10_mend_0 N x y z S = some (r, S1) ∧ X11_mend_42 N x y z S1 = some (r, S2) ∧ GR S2 c' ∧ c ≤ c' ∧ c' ≤ c + 11 := by
  obtain ⟨hT, hE, hO, hD, hB, hC⟩ := h
  obtain ⟨r, S1, S2, a1, a2, a3, a4⟩ := m_mend hN x y z hE
  have f1 := F_X10_mend_0 _ _ _ _ _ a1
  have f2 := F_X11_mend_42 _ _ _ _ _ a2
  obtain ⟨c', q1, q2, q3⟩ := g_rC hC f1 f2 (by decide) (by decide) (by decide) a4 hc
  exact ⟨r, S1, S2, c', a1, a2, ⟨(hT.fr f1 (by decide)).fr f2 (by decide), a3, (hO.fr f1 (by decide)).fr f2 (by decide), (hD.fr f1 (by decide)).fr f2 (by decide), (hB.fr f1 (by decide)).fr f2 (by decide), q1⟩, q2, q3⟩
theorem g_strike {N c : Nat} (x : Int32) {S : aSt} (hN : 5000 ≤ N) (hc : c < 2 ^ 30) (h : GR S c) : ∃ r S1 S2 c', X10_strike_0 N x S = some (r, S1) ∧ X11_strike_42 N x S1 = some (r, S2) ∧ GR S2 c' ∧ c ≤ c' ∧ c' ≤ c + 11 := by
  obtain ⟨hT, hE, hO, hD, hB, hC⟩ := h
  obtain ⟨r, S1, S2, a1, a2, a3, a4⟩ := m_strike hN x hE
  have f1 := F_X10_strike_0 _ _ _ a1
  have f2 := F_X11_strike_42 _ _ _ a2
  obtain ⟨c', q1, q2, q3⟩ := g_rC hC f1 f2 (by decide) (by decide) (by decide) a4 hc
  exact ⟨r, S1, S2, c', a1, a2, ⟨(hT.fr f1 (by decide)).fr f2 (by decide), a3, (hO.fr f1 (by decide)).fr f2 (by decide), (hD.fr f1 (by decide)).fr f2 (by decide), (hB.fr f1 (by decide)).fr f2 (by decide), q1⟩, q2, q3⟩
