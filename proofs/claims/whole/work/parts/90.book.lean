/-! book: a line is done -/
def rE2 (S T : aSt) : Prop := ∃ e : Nat, e ≤ 30 ∧ S.1 8 0 = nI e ∧ T.1 42 5 = nI e ∧ (∀ i, i < 5 * e → S.2.2 9 i = T.2.2 45 i) ∧ okP (S.2.2 9) e
def rO2 (S T : aSt) : Prop := (∀ i, i < 20 → S.2.2 10 i = T.2.2 47 i ∧ is99 (S.2.2 10 i)) ∧ (∀ i, i < 100 → S.2.2 11 i = T.2.2 48 i ∧ is99 (S.2.2 11 i)) ∧ (S.1 8 1 = T.1 42 10 ∧ is99 (S.1 8 1)) ∧ (S.1 8 2 = T.1 42 11 ∧ is99 (S.1 8 2)) ∧ (S.1 8 3 = T.1 42 12 ∧ is99 (S.1 8 3))
def rD2 (S T : aSt) : Prop := ∃ d : Nat, d < 64 ∧ T.1 42 7 = nI d ∧ ∀ p, p < 6 → S.2.2 13 p = (if d.testBit p then 1 else 0) ∧ (d.testBit p = true → S.2.2 12 p = T.2.2 46 p)
def rQ (S T : aSt) : Prop := rE2 S T ∧ rO2 S T ∧ rD2 S T
theorem rE2.fr {W V : aWr} {S T S' T' : aSt} (h : rE2 S T) (f : aFr W S S') (g : aFr V T T') (q : (8, 0) ∉ W.1 ∧ 9 ∉ W.2.2 ∧ (42, 5) ∉ V.1 ∧ 45 ∉ V.2.2) : rE2 S' T' := by
  unfold rE2
  rw [f.1 _ _ q.1, f.2.2 _ q.2.1, g.1 _ _ q.2.2.1, g.2.2 _ q.2.2.2]
  exact h
theorem rO2.fr {W V : aWr} {S T S' T' : aSt} (h : rO2 S T) (f : aFr W S S') (g : aFr V T T') (q : 10 ∉ W.2.2 ∧ 11 ∉ W.2.2 ∧ (8, 1) ∉ W.1 ∧ (8, 2) ∉ W.1 ∧ (8, 3) ∉ W.1) (p : 47 ∉ V.2.2 ∧ 48 ∉ V.2.2 ∧ (42, 10) ∉ V.1 ∧ (42, 11) ∉ V.1 ∧ (42, 12) ∉ V.1) : rO2 S' T' := by
  unfold rO2
  rw [f.2.2 _ q.1, f.2.2 _ q.2.1, f.1 _ _ q.2.2.1, f.1 _ _ q.2.2.2.1, f.1 _ _ q.2.2.2.2, g.2.2 _ p.1, g.2.2 _ p.2.1, g.1 _ _ p.2.2.1, g.1 _ _ p.2.2.2.1, g.1 _ _ p.2.2.2.2]
  exact h
theorem rD2.fr {W V : aWr} {S T S' T' : aSt} (h : rD2 S T) (f : aFr W S S') (g : aFr V T T') (q : 13 ∉ W.2.2 ∧ 12 ∉ W.2.2 ∧ (42, 7) ∉ V.1 ∧ 46 ∉ V.2.2) : rD2 S' T' := by
  unfold rD2
  rw [f.2.2 _ q.1, f.2.2 _ q.2.1, g.1 _ _ q.2.2.1, g.2.2 _ q.2.2.2]
  exact h
def u5 (P : Nat → Int32) (e : Nat) (a0 a1 a2 a3 a4 : Int32) : Nat → Int32 := upd (upd (upd (upd (upd P (5 * e) a0) (5 * e + 1) a1) (5 * e + 2) a2) (5 * e + 3) a3) (5 * e + 4) a4
theorem u5_at (P : Nat → Int32) (e : Nat) (a0 a1 a2 a3 a4 : Int32) : (∀ i, i < 5 * e → u5 P e a0 a1 a2 a3 a4 i = P i) ∧ u5 P e a0 a1 a2 a3 a4 (5 * e) = a0 ∧ u5 P e a0 a1 a2 a3 a4 (5 * e + 1) = a1 ∧ u5 P e a0 a1 a2 a3 a4 (5 * e + 2) = a2 ∧ u5 P e a0 a1 a2 a3 a4 (5 * e + 3) = a3 ∧ u5 P e a0 a1 a2 a3 a4 (5 * e + 4) = a4 := by
  unfold u5
  refine ⟨fun i hi => ?_, ?_, ?_, ?_, ?_, ?_⟩
  · rw [gU, if_neg (by omega), gU, if_neg (by omega), gU, if_neg (by omega), gU, if_neg (by omega), gU, if_neg (by omega)]
  · rw [gU, if_neg (by omega), gU, if_neg (by omega), gU, if_neg (by omega), gU, if_neg (by omega), gU, if_pos rfl]
  · rw [gU, if_neg (by omega), gU, if_neg (by omega), gU, if_neg (by omega), gU, if_pos rfl]
  · rw [gU, if_neg (by omega), gU, if_neg (by omega), gU, if_pos rfl]
  · rw [gU, if_neg (by omega), gU, if_pos rfl]
  · rw [gU, if_pos rfl]
theorem u5_ok {P : Nat → Int32} {e : Nat} {a0 a1 a2 a3 a4 : Int32} (h : okP P e) (h0 : a0 = 0 ∨ a0 = 1) (h1 : isSm a1) (h2 : ∃ n : Nat, n < 8 ∧ a2 = nI n) (h3 : ∃ n : Nat, n < 4 ∧ a3 = nI n) (h4 : ∃ n : Nat, n < 6 ∧ a4 = nI n) : okP (u5 P e a0 a1 a2 a3 a4) (e + 1) := by
  obtain ⟨q, q0, q1, q2, q3, q4⟩ := u5_at P e a0 a1 a2 a3 a4
  intro j hj
  by_cases c : j = e
  · subst c
    rw [q0, q1, q2, q3, q4]
    exact ⟨h0, h1, h2, h3, h4⟩
  · rw [q (5 * j) (by omega), q (5 * j + 1) (by omega), q (5 * j + 2) (by omega), q (5 * j + 3) (by omega), q (5 * j + 4) (by omega)]
    exact h j (by omega)
theorem u5_cong {P Q : Nat → Int32} {e : Nat} {a0 a1 a2 a3 a4 : Int32} (h : ∀ i, i < 5 * e → P i = Q i) : ∀ i, i < 5 * (e + 1) → u5 P e a0 a1 a2 a3 a4 i = u5 Q e a0 a1 a2 a3 a4 i := by
  obtain ⟨q, q0, q1, q2, q3, q4⟩ := u5_at P e a0 a1 a2 a3 a4
  obtain ⟨r, r0, r1, r2, r3, r4⟩ := u5_at Q e a0 a1 a2 a3 a4
  intro i hi
  by_cases c : i < 5 * e
  · rw [q i c, r i c, h i c]
  · rcases (show i = 5 * e ∨ i = 5 * e + 1 ∨ i = 5 * e + 2 ∨ i = 5 * e + 3 ∨ i = 5 * e + 4 by omega) with rfl | rfl | rfl | rfl | rfl
    · rw [q0, r0]
    · rw [q1, r1]
    · rw [q2, r2]
    · rw [q3, r3]
    · rw [q4, r4]
theorem c_add {l e : Nat} {sd : Int32} {S : aSt} (hl : l < 10) (he : e < 30) (hS : S.1 8 0 = nI e) : X2_add_8_1 sd (nI l) S = aI (aA S 9 (u5 (S.2.2 9) e sd (S.2.2 7 (4 * l)) (S.2.2 7 (4 * l + 1)) (S.2.2 7 (4 * l + 2)) (S.2.2 7 (4 * l + 3)))) 8 0 (nI (e + 1)) := by
  have s0 : X2_setPart_8 (nI e) (0 : Int32) sd S = aA S 9 (upd (S.2.2 9) (5 * e) sd) := X2_setPart_eq (w := 0) (by omega)
  have sp : ∀ (Q : Nat → Int32) (w : Nat) (v : Int32), w < 5 → X2_setPart_8 (nI e) (nI w) v (aA S 9 Q) = aA S 9 (upd Q (5 * e + w) v) := fun Q w v hw => by
    rw [X2_setPart_eq (by omega), gA, if_pos rfl, aA_aA]
  have s1 : ∀ (Q : Nat → Int32) (v : Int32), X2_setPart_8 (nI e) (1 : Int32) v (aA S 9 Q) = aA S 9 (upd Q (5 * e + 1) v) := fun Q v => sp Q 1 v (by decide)
  have s2 : ∀ (Q : Nat → Int32) (v : Int32), X2_setPart_8 (nI e) (2 : Int32) v (aA S 9 Q) = aA S 9 (upd Q (5 * e + 2) v) := fun Q v => sp Q 2 v (by decide)
  have s3 : ∀ (Q : Nat → Int32) (v : Int32), X2_setPart_8 (nI e) (3 : Int32) v (aA S 9 Q) = aA S 9 (upd Q (5 * e + 3) v) := fun Q v => sp Q 3 v (by decide)
  have s4 : ∀ (Q : Nat → Int32) (v : Int32), X2_setPart_8 (nI e) (4 : Int32) v (aA S 9 Q) = aA S 9 (upd Q (5 * e + 4) v) := fun Q v => sp Q 4 v (by decide)
  have nm : ∀ (Q : Nat → Int32) (i : Nat), i < 4 → X9_number_1 (nI l) (nI i) (aA S 9 Q) = S.2.2 7 (4 * l + i) := fun Q i hi => by
    rw [X9_number_eq (by omega), gA, if_neg (by decide)]
  have m0 : ∀ Q : Nat → Int32, X9_number_1 (nI l) (0 : Int32) (aA S 9 Q) = S.2.2 7 (4 * l) := fun Q => nm Q 0 (by decide)
  have m1 : ∀ Q : Nat → Int32, X9_number_1 (nI l) (1 : Int32) (aA S 9 Q) = S.2.2 7 (4 * l + 1) := fun Q => nm Q 1 (by decide)
  have m2 : ∀ Q : Nat → Int32, X9_number_1 (nI l) (2 : Int32) (aA S 9 Q) = S.2.2 7 (4 * l + 2) := fun Q => nm Q 2 (by decide)
  have m3 : ∀ Q : Nat → Int32, X9_number_1 (nI l) (3 : Int32) (aA S 9 Q) = S.2.2 7 (4 * l + 3) := fun Q => nm Q 3 (by decide)
  unfold X2_add_8_1
  rw [hS, if_pos (by exact iLT e 30 he), s0, aLet, gAi, hS, m0, aLet, s1, aLet, gAi, hS, m1, aLet, s2, aLet, gAi, hS, m2, aLet, s3, aLet, gAi, hS, m3, aLet, s4, aLet, gAi, hS, nI_1]
  rfl
theorem X9_word_eq {S : aSt} {l : Nat} (h : l < 10) : X9_word_1 (nI l) S = S.2.2 6 l := by
  unfold X9_word_1 X6_at_6
  simp only [aLet]
  rw [if_neg (nI_pos (by omega)), if_neg (by exact iNLE 10 l h), nI_clamp (by omega)]
theorem c_num {S : aSt} {l : Nat} (h : l < 10) : X9_number_1 (nI l) (0 : Int32) S = S.2.2 7 (4 * l) ∧ X9_number_1 (nI l) (1 : Int32) S = S.2.2 7 (4 * l + 1) ∧ X9_number_1 (nI l) (2 : Int32) S = S.2.2 7 (4 * l + 2) := ⟨X9_number_eq (i := 0) (by omega), X9_number_eq (i := 1) (by omega), X9_number_eq (i := 2) (by omega)⟩
theorem c_line0 {N l : Nat} {S : aSt} (hl : l < 10) (h6 : S.2.2 6 l = nI 10) : X2_takeLine_8_1 N (nI l) S = some (X2_add_8_1 (0 : Int32) (nI l) S) := by
  unfold X2_takeLine_8_1
  rw [(c_num hl).1, (c_num hl).2.1, X9_word_eq hl, h6, aLet, aLet, aLet, if_neg (by decide), if_pos (show nI 10 = (10 : Int32) from rfl)]
  rfl
theorem r_lay0 {N l e : Nat} {T : aSt} (hl : l < 10) (he : e ≤ 30) (h44 : T.2.2 44 (5 * l) = nI 0) (h5 : T.1 42 5 = nI e) : X11_lay_42 N (nI (5 * l)) T = if 30 ≤ e then some T else some (aI (aA T 45 (u5 (T.2.2 45) e (nI 0) (T.2.2 44 (5 * l + 1)) (T.2.2 44 (5 * l + 2)) (T.2.2 44 (5 * l + 3)) (T.2.2 44 (5 * l + 4)))) 42 5 (nI (e + 1))) := by
  unfold X11_lay_42
  rw [nI_1, m_a2, m_a3, if_pos (m_ix (show 5 * l + 1 < 50 by omega) (by decide)), if_pos (m_ix (show 5 * l + 2 < 50 by omega) (by decide)), if_pos (m_ix (show 5 * l + 3 < 50 by omega) (by decide)), if_pos (m_ix (show 5 * l < 50 by omega) (by decide)), nI_clamp (show 5 * l < 2 ^ 31 by omega), nI_clamp (show 5 * l + 1 < 2 ^ 31 by omega), nI_clamp (show 5 * l + 2 < 2 ^ 31 by omega), nI_clamp (show 5 * l + 3 < 2 ^ 31 by omega), h44, if_neg (by decide), if_pos (show nI 0 = (0 : Int32) from rfl)]
  rw [h5]
  by_cases c : 30 ≤ e
  · rw [if_pos (by exact iLE 30 e c), if_pos c]
  · rw [if_neg (by exact iNLE 30 e (by omega)), if_neg c, m_50, m_a4, nI_1, m_a2, m_a3, m_a4, if_pos (m_ix (show 5 * l < 50 by omega) (by decide)), if_pos (m_ix (show 5 * e < 150 by omega) (by decide)), if_pos (m_ix (show 5 * e + 1 < 150 by omega) (by decide)), if_pos (m_ix (show 5 * e + 2 < 150 by omega) (by decide)), if_pos (m_ix (show 5 * e + 3 < 150 by omega) (by decide)), if_pos (m_ix (show 5 * l + 4 < 50 by omega) (by decide)), if_pos (m_ix (show 5 * e + 4 < 150 by omega) (by decide)), nI_clamp (show 5 * e < 2 ^ 31 by omega), nI_clamp (show 5 * e + 1 < 2 ^ 31 by omega), nI_clamp (show 5 * e + 2 < 2 ^ 31 by omega), nI_clamp (show 5 * e + 3 < 2 ^ 31 by omega), nI_clamp (show 5 * e + 4 < 2 ^ 31 by omega), nI_clamp (show 5 * l + 4 < 2 ^ 31 by omega), aA_aA, aA_aA, aA_aA, aA_aA, nI_1]
    rfl
theorem m_lay0 {N l q : Nat} {S T : aSt} (hl : l < 10) (h6 : S.2.2 6 l = nI 10) (h44 : T.2.2 44 (5 * l) = nI 0) (hD : dE l S T) (hQ : rQ S T) (hq : S.1 8 4 = nI q) : ∃ S' T' q', X2_takeLine_8_1 N (nI l) S = some S' ∧ X11_lay_42 N (nI (5 * l)) T = some T' ∧ rQ S' T' ∧ S'.1 8 4 = nI q' ∧ q ≤ q' ∧ q' ≤ q + 1 := by
  have hQ' := hQ
  obtain ⟨⟨e, he, e1, e2, e3, e4⟩, hO, hDu⟩ := hQ
  obtain ⟨a, c, d, p, ⟨a1, a9⟩, c7, d3, p5, n0, n1, n2, n3⟩ := hD
  rw [c_line0 hl h6, r_lay0 hl he h44 e2]
  by_cases c30 : 30 ≤ e
  · have hx : X2_add_8_1 (0 : Int32) (nI l) S = S := by
      unfold X2_add_8_1
      rw [e1, if_neg (by exact iNLT e 30 c30)]
    rw [hx, if_pos c30]
    exact ⟨S, T, q, rfl, rfl, hQ', hq, Nat.le_refl _, Nat.le_succ _⟩
  · have s0 : S.2.2 7 (4 * l) = nI a := n0.1
    have s1 : S.2.2 7 (4 * l + 1) = nI c := n1.1
    have s2 : S.2.2 7 (4 * l + 2) = nI d := n2.1
    have s3 : S.2.2 7 (4 * l + 3) = nI p := n3.1
    have t0 : T.2.2 44 (5 * l + 1) = nI a := n0.2
    have t1 : T.2.2 44 (5 * l + 2) = nI c := n1.2
    have t2 : T.2.2 44 (5 * l + 3) = nI d := n2.2
    have t3 : T.2.2 44 (5 * l + 4) = nI p := n3.2
    have fS : aFr ([(8, 0)], [], [9]) S (aI (aA S 9 (u5 (S.2.2 9) e (0 : Int32) (nI a) (nI c) (nI d) (nI p))) 8 0 (nI (e + 1))) := (aFr.rf.A 9 _ (by decide)).I 8 0 _ (by decide)
    have fT : aFr ([(42, 5)], [], [45]) T (aI (aA T 45 (u5 (T.2.2 45) e (nI 0) (nI a) (nI c) (nI d) (nI p))) 42 5 (nI (e + 1))) := (aFr.rf.A 45 _ (by decide)).I 42 5 _ (by decide)
    rw [c_add hl (by omega) e1, if_neg c30, s0, s1, s2, s3, t0, t1, t2, t3]
    refine ⟨_, _, q, rfl, rfl, ⟨⟨e + 1, by omega, by rw [gI, if_pos ⟨rfl, rfl⟩], by rw [gI, if_pos ⟨rfl, rfl⟩], ?_, ?_⟩, hO.fr fS fT (by decide) (by decide), hDu.fr fS fT (by decide)⟩, ?_, Nat.le_refl _, Nat.le_succ _⟩
    · rw [gIa, gA, if_pos rfl, gIa, gA, if_pos rfl]
      exact u5_cong e3
    · rw [gIa, gA, if_pos rfl]
      exact u5_ok e4 (by decide) ⟨a, a1, a9, rfl⟩ ⟨c, by omega, rfl⟩ ⟨d, by omega, rfl⟩ ⟨p, by omega, rfl⟩
    · rw [fS.1 8 4 (by decide)]; exact hq
theorem c_line1 {N l : Nat} {S : aSt} (hl : l < 10) (h6 : S.2.2 6 l = nI 11) : X2_takeLine_8_1 N (nI l) S = some (X2_add_8_1 (1 : Int32) (nI l) S) := by
  unfold X2_takeLine_8_1
  rw [(c_num hl).1, (c_num hl).2.1, X9_word_eq hl, h6, aLet, aLet, aLet, if_neg (by decide), if_neg (by decide), if_pos (show nI 11 = (11 : Int32) from rfl)]
  rfl
theorem r_lay1 {N l e : Nat} {T : aSt} (hl : l < 10) (he : e ≤ 30) (h44 : T.2.2 44 (5 * l) = nI 1) (h5 : T.1 42 5 = nI e) : X11_lay_42 N (nI (5 * l)) T = if 30 ≤ e then some T else some (aI (aA T 45 (u5 (T.2.2 45) e (nI 1) (T.2.2 44 (5 * l + 1)) (T.2.2 44 (5 * l + 2)) (T.2.2 44 (5 * l + 3)) (T.2.2 44 (5 * l + 4)))) 42 5 (nI (e + 1))) := by
  unfold X11_lay_42
  rw [nI_1, m_a2, m_a3, if_pos (m_ix (show 5 * l + 1 < 50 by omega) (by decide)), if_pos (m_ix (show 5 * l + 2 < 50 by omega) (by decide)), if_pos (m_ix (show 5 * l + 3 < 50 by omega) (by decide)), if_pos (m_ix (show 5 * l < 50 by omega) (by decide)), nI_clamp (show 5 * l < 2 ^ 31 by omega), nI_clamp (show 5 * l + 1 < 2 ^ 31 by omega), nI_clamp (show 5 * l + 2 < 2 ^ 31 by omega), nI_clamp (show 5 * l + 3 < 2 ^ 31 by omega), h44, if_neg (by decide), if_neg (by decide), if_pos (show nI 1 = (1 : Int32) from rfl)]
  rw [h5]
  by_cases c : 30 ≤ e
  · rw [if_pos (by exact iLE 30 e c), if_pos c]
  · rw [if_neg (by exact iNLE 30 e (by omega)), if_neg c, m_50, m_a4, nI_1, m_a2, m_a3, m_a4, if_pos (m_ix (show 5 * l < 50 by omega) (by decide)), if_pos (m_ix (show 5 * e < 150 by omega) (by decide)), if_pos (m_ix (show 5 * e + 1 < 150 by omega) (by decide)), if_pos (m_ix (show 5 * e + 2 < 150 by omega) (by decide)), if_pos (m_ix (show 5 * e + 3 < 150 by omega) (by decide)), if_pos (m_ix (show 5 * l + 4 < 50 by omega) (by decide)), if_pos (m_ix (show 5 * e + 4 < 150 by omega) (by decide)), nI_clamp (show 5 * e < 2 ^ 31 by omega), nI_clamp (show 5 * e + 1 < 2 ^ 31 by omega), nI_clamp (show 5 * e + 2 < 2 ^ 31 by omega), nI_clamp (show 5 * e + 3 < 2 ^ 31 by omega), nI_clamp (show 5 * e + 4 < 2 ^ 31 by omega), nI_clamp (show 5 * l + 4 < 2 ^ 31 by omega), aA_aA, aA_aA, aA_aA, aA_aA, nI_1]
    rfl
theorem m_lay1 {N l q : Nat} {S T : aSt} (hl : l < 10) (h6 : S.2.2 6 l = nI 11) (h44 : T.2.2 44 (5 * l) = nI 1) (hD : dE l S T) (hQ : rQ S T) (hq : S.1 8 4 = nI q) : ∃ S' T' q', X2_takeLine_8_1 N (nI l) S = some S' ∧ X11_lay_42 N (nI (5 * l)) T = some T' ∧ rQ S' T' ∧ S'.1 8 4 = nI q' ∧ q ≤ q' ∧ q' ≤ q + 1 := by
  have hQ' := hQ
  obtain ⟨⟨e, he, e1, e2, e3, e4⟩, hO, hDu⟩ := hQ
  obtain ⟨a, c, d, p, ⟨a1, a9⟩, c7, d3, p5, n0, n1, n2, n3⟩ := hD
  rw [c_line1 hl h6, r_lay1 hl he h44 e2]
  by_cases c30 : 30 ≤ e
  · have hx : X2_add_8_1 (1 : Int32) (nI l) S = S := by
      unfold X2_add_8_1
      rw [e1, if_neg (by exact iNLT e 30 c30)]
    rw [hx, if_pos c30]
    exact ⟨S, T, q, rfl, rfl, hQ', hq, Nat.le_refl _, Nat.le_succ _⟩
  · have s0 : S.2.2 7 (4 * l) = nI a := n0.1
    have s1 : S.2.2 7 (4 * l + 1) = nI c := n1.1
    have s2 : S.2.2 7 (4 * l + 2) = nI d := n2.1
    have s3 : S.2.2 7 (4 * l + 3) = nI p := n3.1
    have t0 : T.2.2 44 (5 * l + 1) = nI a := n0.2
    have t1 : T.2.2 44 (5 * l + 2) = nI c := n1.2
    have t2 : T.2.2 44 (5 * l + 3) = nI d := n2.2
    have t3 : T.2.2 44 (5 * l + 4) = nI p := n3.2
    have fS : aFr ([(8, 0)], [], [9]) S (aI (aA S 9 (u5 (S.2.2 9) e (1 : Int32) (nI a) (nI c) (nI d) (nI p))) 8 0 (nI (e + 1))) := (aFr.rf.A 9 _ (by decide)).I 8 0 _ (by decide)
    have fT : aFr ([(42, 5)], [], [45]) T (aI (aA T 45 (u5 (T.2.2 45) e (nI 1) (nI a) (nI c) (nI d) (nI p))) 42 5 (nI (e + 1))) := (aFr.rf.A 45 _ (by decide)).I 42 5 _ (by decide)
    rw [c_add hl (by omega) e1, if_neg c30, s0, s1, s2, s3, t0, t1, t2, t3]
    refine ⟨_, _, q, rfl, rfl, ⟨⟨e + 1, by omega, by rw [gI, if_pos ⟨rfl, rfl⟩], by rw [gI, if_pos ⟨rfl, rfl⟩], ?_, ?_⟩, hO.fr fS fT (by decide) (by decide), hDu.fr fS fT (by decide)⟩, ?_, Nat.le_refl _, Nat.le_succ _⟩
    · rw [gIa, gA, if_pos rfl, gIa, gA, if_pos rfl]
      exact u5_cong e3
    · rw [gIa, gA, if_pos rfl]
      exact u5_ok e4 (by decide) ⟨a, a1, a9, rfl⟩ ⟨c, by omega, rfl⟩ ⟨d, by omega, rfl⟩ ⟨p, by omega, rfl⟩
    · rw [fS.1 8 4 (by decide)]; exact hq
theorem m_lay2 {N l q : Nat} {S T : aSt} (hl : l < 10) (h6 : S.2.2 6 l = nI 12) (h44 : T.2.2 44 (5 * l) = nI 2) (hD : dH l S T) (hQ : rQ S T) (hq : S.1 8 4 = nI q) : ∃ S' T' q', X2_takeLine_8_1 N (nI l) S = some S' ∧ X11_lay_42 N (nI (5 * l)) T = some T' ∧ rQ S' T' ∧ S'.1 8 4 = nI q' ∧ q ≤ q' ∧ q' ≤ q + 1 := by
  obtain ⟨hE, hO, hDu⟩ := hQ
  obtain ⟨a, c, d, a3, c4, d9, n0, n1, n2⟩ := hD
  have s0 : S.2.2 7 (4 * l) = nI a := n0.1
  have s1 : S.2.2 7 (4 * l + 1) = nI c := n1.1
  have s2 : S.2.2 7 (4 * l + 2) = nI d := n2.1
  have t0 : T.2.2 44 (5 * l + 1) = nI a := n0.2
  have t1 : T.2.2 44 (5 * l + 2) = nI c := n1.2
  have t2 : T.2.2 44 (5 * l + 3) = nI d := n2.2
  have fS : aFr ([(8, 4)], [], [10]) S (aI (aA S 10 (upd (S.2.2 10) (5 * a + c) (nI d))) 8 4 (S.1 8 4 + 1)) := (aFr.rf.A 10 _ (by decide)).I 8 4 _ (by decide)
  have fT : aFr ([], [], [47]) T (aA T 47 (upd (T.2.2 47) (5 * a + c) (nI d))) := aFr.rf.A 47 _ (by decide)
  have ec : X2_takeLine_8_1 N (nI l) S = some (aI (aA S 10 (upd (S.2.2 10) (5 * a + c) (nI d))) 8 4 (S.1 8 4 + 1)) := by
    unfold X2_takeLine_8_1
    rw [(c_num hl).1, (c_num hl).2.1, X9_word_eq hl, h6, aLet, aLet, aLet, if_neg (by decide), if_neg (by decide), if_neg (by decide), if_pos (show nI 12 = (12 : Int32) from rfl)]
    rw [(c_num hl).2.2, s0, s1, s2, aLet, X2_setOdds_eq (by omega) (by omega)]
    rfl
  have er : X11_lay_42 N (nI (5 * l)) T = some (aA T 47 (upd (T.2.2 47) (5 * a + c) (nI d))) := by
    unfold X11_lay_42
    rw [nI_1, m_a2, m_a3, if_pos (m_ix (show 5 * l + 1 < 50 by omega) (by decide)), if_pos (m_ix (show 5 * l + 2 < 50 by omega) (by decide)), if_pos (m_ix (show 5 * l + 3 < 50 by omega) (by decide)), if_pos (m_ix (show 5 * l < 50 by omega) (by decide)), nI_clamp (show 5 * l < 2 ^ 31 by omega), nI_clamp (show 5 * l + 1 < 2 ^ 31 by omega), nI_clamp (show 5 * l + 2 < 2 ^ 31 by omega), nI_clamp (show 5 * l + 3 < 2 ^ 31 by omega), h44, if_neg (by decide), if_neg (by decide), if_neg (by decide), if_pos (show nI 2 = (2 : Int32) from rfl)]
    rw [t0, t1, t2, m_5, if_pos (m_ix (show 5 * a + c < 20 by omega) (by decide)), nI_clamp (by omega)]
  refine ⟨_, _, q + 1, ec, er, ⟨hE.fr fS fT (by decide), ⟨fun i hi => ?_, ?_, ?_, ?_, ?_⟩, hDu.fr fS fT (by decide)⟩, ?_, Nat.le_succ _, Nat.le_refl _⟩
  · rw [gIa, gA, if_pos rfl, gA, if_pos rfl, gU, gU]
    by_cases cc : i = 5 * a + c
    · rw [if_pos cc, if_pos cc]; exact ⟨rfl, d, d9, rfl⟩
    · rw [if_neg cc, if_neg cc]; exact hO.1 i hi
  · rw [fS.2.2 11 (by decide), fT.2.2 48 (by decide)]; exact hO.2.1
  · rw [fS.1 8 1 (by decide), fT.1 42 10 (by decide)]; exact hO.2.2.1
  · rw [fS.1 8 2 (by decide), fT.1 42 11 (by decide)]; exact hO.2.2.2.1
  · rw [fS.1 8 3 (by decide), fT.1 42 12 (by decide)]; exact hO.2.2.2.2
  · rw [gI, if_pos ⟨rfl, rfl⟩, hq, nI_1]
theorem X6_set_11_eq {S : aSt} {i : Nat} {v : Int32} (h : i < 100) : X6_set_11 (nI i) v S = aA S 11 (upd (S.2.2 11) i v) := by
  unfold X6_set_11
  rw [if_neg (nI_pos (by omega)), if_neg (by exact iNLE 100 i h), nI_clamp (by omega)]
theorem m_lay3 {N l q : Nat} {S T : aSt} (hl : l < 10) (h6 : S.2.2 6 l = nI 13) (h44 : T.2.2 44 (5 * l) = nI 3) (hD : dR l S T) (hQ : rQ S T) (hq : S.1 8 4 = nI q) : ∃ S' T' q', X2_takeLine_8_1 N (nI l) S = some S' ∧ X11_lay_42 N (nI (5 * l)) T = some T' ∧ rQ S' T' ∧ S'.1 8 4 = nI q' ∧ q ≤ q' ∧ q' ≤ q + 1 := by
  obtain ⟨hE, hO, hDu⟩ := hQ
  obtain ⟨a, c, d, a3, c4, d9, n0, n1, n2⟩ := hD
  have s0 : S.2.2 7 (4 * l) = nI a := n0.1
  have s1 : S.2.2 7 (4 * l + 1) = nI c := n1.1
  have s2 : S.2.2 7 (4 * l + 2) = nI d := n2.1
  have t0 : T.2.2 44 (5 * l + 1) = nI a := n0.2
  have t1 : T.2.2 44 (5 * l + 2) = nI c := n1.2
  have t2 : T.2.2 44 (5 * l + 3) = nI d := n2.2
  have x1 : nI a * (10 : Int32) + nI c = nI (10 * a + c) := by
    show nI a * nI 10 + nI c = _
    rw [pk_mul, nI_add, Nat.mul_comm]
  have x2 : (10 : Int32) * nI a + nI c = nI (10 * a + c) := by rw [t10, nI_add]
  have fS : aFr ([], [], [11]) S (aA S 11 (upd (S.2.2 11) (10 * a + c) (nI d))) := aFr.rf.A 11 _ (by decide)
  have fT : aFr ([], [], [48]) T (aA T 48 (upd (T.2.2 48) (10 * a + c) (nI d))) := aFr.rf.A 48 _ (by decide)
  have ec : X2_takeLine_8_1 N (nI l) S = some (aA S 11 (upd (S.2.2 11) (10 * a + c) (nI d))) := by
    unfold X2_takeLine_8_1
    rw [(c_num hl).1, (c_num hl).2.1, X9_word_eq hl, h6, aLet, aLet, aLet, if_neg (by decide), if_neg (by decide), if_neg (by decide), if_neg (by decide), if_pos (show nI 13 = (13 : Int32) from rfl)]
    rw [(c_num hl).2.2, s0, s1, s2, aLet, x1, X6_set_11_eq (by omega)]
    rfl
  have er : X11_lay_42 N (nI (5 * l)) T = some (aA T 48 (upd (T.2.2 48) (10 * a + c) (nI d))) := by
    unfold X11_lay_42
    rw [nI_1, m_a2, m_a3, if_pos (m_ix (show 5 * l + 1 < 50 by omega) (by decide)), if_pos (m_ix (show 5 * l + 2 < 50 by omega) (by decide)), if_pos (m_ix (show 5 * l + 3 < 50 by omega) (by decide)), if_pos (m_ix (show 5 * l < 50 by omega) (by decide)), nI_clamp (show 5 * l < 2 ^ 31 by omega), nI_clamp (show 5 * l + 1 < 2 ^ 31 by omega), nI_clamp (show 5 * l + 2 < 2 ^ 31 by omega), nI_clamp (show 5 * l + 3 < 2 ^ 31 by omega), h44, if_neg (by decide), if_neg (by decide), if_neg (by decide), if_neg (by decide), if_pos (show nI 3 = (3 : Int32) from rfl)]
    rw [t0, t1, t2, x2, if_pos (m_ix (show 10 * a + c < 100 by omega) (by decide)), nI_clamp (by omega)]
  refine ⟨_, _, q, ec, er, ⟨hE.fr fS fT (by decide), ⟨?_, fun i hi => ?_, ?_, ?_, ?_⟩, hDu.fr fS fT (by decide)⟩, ?_, Nat.le_refl _, Nat.le_succ _⟩
  · rw [fS.2.2 10 (by decide), fT.2.2 47 (by decide)]; exact hO.1
  · rw [gA, if_pos rfl, gA, if_pos rfl, gU, gU]
    by_cases cc : i = 10 * a + c
    · rw [if_pos cc, if_pos cc]; exact ⟨rfl, d, d9, rfl⟩
    · rw [if_neg cc, if_neg cc]; exact hO.2.1 i hi
  · rw [fS.1 8 1 (by decide), fT.1 42 10 (by decide)]; exact hO.2.2.1
  · rw [fS.1 8 2 (by decide), fT.1 42 11 (by decide)]; exact hO.2.2.2.1
  · rw [fS.1 8 3 (by decide), fT.1 42 12 (by decide)]; exact hO.2.2.2.2
  · rw [fS.1 8 4 (by decide)]; exact hq
theorem m_lay4 {N l q : Nat} {S T : aSt} (hl : l < 10) (h6 : S.2.2 6 l = nI 14) (h44 : T.2.2 44 (5 * l) = nI 4) (hD : d1 l S T) (hQ : rQ S T) (hq : S.1 8 4 = nI q) : ∃ S' T' q', X2_takeLine_8_1 N (nI l) S = some S' ∧ X11_lay_42 N (nI (5 * l)) T = some T' ∧ rQ S' T' ∧ S'.1 8 4 = nI q' ∧ q ≤ q' ∧ q' ≤ q + 1 := by
  obtain ⟨hE, hO, hDu⟩ := hQ
  obtain ⟨a, a9, n0⟩ := hD
  have s0 : S.2.2 7 (4 * l) = nI a := n0.1
  have t0 : T.2.2 44 (5 * l + 1) = nI a := n0.2
  have fS : aFr ([(8, 1)], [], []) S (aI S 8 1 (nI a)) := aFr.rf.I 8 1 _ (by decide)
  have fT : aFr ([(42, 10)], [], []) T (aI T 42 10 (nI a)) := aFr.rf.I 42 10 _ (by decide)
  have ec : X2_takeLine_8_1 N (nI l) S = some (aI S 8 1 (nI a)) := by
    unfold X2_takeLine_8_1
    rw [(c_num hl).1, (c_num hl).2.1, X9_word_eq hl, h6, aLet, aLet, aLet, if_neg (by decide), if_neg (by decide), if_neg (by decide), if_neg (by decide), if_neg (by decide), if_pos (show nI 14 = (14 : Int32) from rfl)]
    rw [s0]
  have er : X11_lay_42 N (nI (5 * l)) T = some (aI T 42 10 (nI a)) := by
    unfold X11_lay_42
    rw [nI_1, m_a2, m_a3, if_pos (m_ix (show 5 * l + 1 < 50 by omega) (by decide)), if_pos (m_ix (show 5 * l + 2 < 50 by omega) (by decide)), if_pos (m_ix (show 5 * l + 3 < 50 by omega) (by decide)), if_pos (m_ix (show 5 * l < 50 by omega) (by decide)), nI_clamp (show 5 * l < 2 ^ 31 by omega), nI_clamp (show 5 * l + 1 < 2 ^ 31 by omega), nI_clamp (show 5 * l + 2 < 2 ^ 31 by omega), nI_clamp (show 5 * l + 3 < 2 ^ 31 by omega), h44, if_neg (by decide), if_neg (by decide), if_neg (by decide), if_neg (by decide), if_neg (by decide), if_pos (show nI 4 = (4 : Int32) from rfl)]
    rw [t0]
  refine ⟨_, _, q, ec, er, ⟨hE.fr fS fT (by decide), ⟨?_, ?_, ?_, ?_, ?_⟩, hDu.fr fS fT (by decide)⟩, ?_, Nat.le_refl _, Nat.le_succ _⟩
  · rw [fS.2.2 10 (by decide), fT.2.2 47 (by decide)]; exact hO.1
  · rw [fS.2.2 11 (by decide), fT.2.2 48 (by decide)]; exact hO.2.1
  · rw [gI, if_pos ⟨rfl, rfl⟩, gI, if_pos ⟨rfl, rfl⟩]; exact ⟨rfl, a, a9, rfl⟩
  · rw [fS.1 8 2 (by decide), fT.1 42 11 (by decide)]; exact hO.2.2.2.1
  · rw [fS.1 8 3 (by decide), fT.1 42 12 (by decide)]; exact hO.2.2.2.2
  · rw [fS.1 8 4 (by decide)]; exact hq
theorem m_lay5 {N l q : Nat} {S T : aSt} (hl : l < 10) (h6 : S.2.2 6 l = nI 15) (h44 : T.2.2 44 (5 * l) = nI 5) (hD : d1 l S T) (hQ : rQ S T) (hq : S.1 8 4 = nI q) : ∃ S' T' q', X2_takeLine_8_1 N (nI l) S = some S' ∧ X11_lay_42 N (nI (5 * l)) T = some T' ∧ rQ S' T' ∧ S'.1 8 4 = nI q' ∧ q ≤ q' ∧ q' ≤ q + 1 := by
  obtain ⟨hE, hO, hDu⟩ := hQ
  obtain ⟨a, a9, n0⟩ := hD
  have s0 : S.2.2 7 (4 * l) = nI a := n0.1
  have t0 : T.2.2 44 (5 * l + 1) = nI a := n0.2
  have fS : aFr ([(8, 2)], [], []) S (aI S 8 2 (nI a)) := aFr.rf.I 8 2 _ (by decide)
  have fT : aFr ([(42, 11)], [], []) T (aI T 42 11 (nI a)) := aFr.rf.I 42 11 _ (by decide)
  have ec : X2_takeLine_8_1 N (nI l) S = some (aI S 8 2 (nI a)) := by
    unfold X2_takeLine_8_1
    rw [(c_num hl).1, (c_num hl).2.1, X9_word_eq hl, h6, aLet, aLet, aLet, if_neg (by decide), if_neg (by decide), if_neg (by decide), if_neg (by decide), if_neg (by decide), if_neg (by decide), if_pos (show nI 15 = (15 : Int32) from rfl)]
    rw [s0]
  have er : X11_lay_42 N (nI (5 * l)) T = some (aI T 42 11 (nI a)) := by
    unfold X11_lay_42
    rw [nI_1, m_a2, m_a3, if_pos (m_ix (show 5 * l + 1 < 50 by omega) (by decide)), if_pos (m_ix (show 5 * l + 2 < 50 by omega) (by decide)), if_pos (m_ix (show 5 * l + 3 < 50 by omega) (by decide)), if_pos (m_ix (show 5 * l < 50 by omega) (by decide)), nI_clamp (show 5 * l < 2 ^ 31 by omega), nI_clamp (show 5 * l + 1 < 2 ^ 31 by omega), nI_clamp (show 5 * l + 2 < 2 ^ 31 by omega), nI_clamp (show 5 * l + 3 < 2 ^ 31 by omega), h44, if_neg (by decide), if_neg (by decide), if_neg (by decide), if_neg (by decide), if_neg (by decide), if_neg (by decide), if_pos (show nI 5 = (5 : Int32) from rfl)]
    rw [t0]
  refine ⟨_, _, q, ec, er, ⟨hE.fr fS fT (by decide), ⟨?_, ?_, ?_, ?_, ?_⟩, hDu.fr fS fT (by decide)⟩, ?_, Nat.le_refl _, Nat.le_succ _⟩
  · rw [fS.2.2 10 (by decide), fT.2.2 47 (by decide)]; exact hO.1
  · rw [fS.2.2 11 (by decide), fT.2.2 48 (by decide)]; exact hO.2.1
  · rw [fS.1 8 1 (by decide), fT.1 42 10 (by decide)]; exact hO.2.2.1
  · rw [gI, if_pos ⟨rfl, rfl⟩, gI, if_pos ⟨rfl, rfl⟩]; exact ⟨rfl, a, a9, rfl⟩
  · rw [fS.1 8 3 (by decide), fT.1 42 12 (by decide)]; exact hO.2.2.2.2
  · rw [fS.1 8 4 (by decide)]; exact hq
theorem m_lay6 {N l q : Nat} {S T : aSt} (hl : l < 10) (h6 : S.2.2 6 l = nI 16) (h44 : T.2.2 44 (5 * l) = nI 6) (hD : d1 l S T) (hQ : rQ S T) (hq : S.1 8 4 = nI q) : ∃ S' T' q', X2_takeLine_8_1 N (nI l) S = some S' ∧ X11_lay_42 N (nI (5 * l)) T = some T' ∧ rQ S' T' ∧ S'.1 8 4 = nI q' ∧ q ≤ q' ∧ q' ≤ q + 1 := by
  obtain ⟨hE, hO, hDu⟩ := hQ
  obtain ⟨a, a9, n0⟩ := hD
  have s0 : S.2.2 7 (4 * l) = nI a := n0.1
  have t0 : T.2.2 44 (5 * l + 1) = nI a := n0.2
  have fS : aFr ([(8, 3)], [], []) S (aI S 8 3 (nI a)) := aFr.rf.I 8 3 _ (by decide)
  have fT : aFr ([(42, 12)], [], []) T (aI T 42 12 (nI a)) := aFr.rf.I 42 12 _ (by decide)
  have ec : X2_takeLine_8_1 N (nI l) S = some (aI S 8 3 (nI a)) := by
    unfold X2_takeLine_8_1
    rw [(c_num hl).1, (c_num hl).2.1, X9_word_eq hl, h6, aLet, aLet, aLet, if_neg (by decide), if_neg (by decide), if_neg (by decide), if_neg (by decide), if_neg (by decide), if_neg (by decide), if_neg (by decide), if_pos (show nI 16 = (16 : Int32) from rfl)]
    rw [s0]
  have er : X11_lay_42 N (nI (5 * l)) T = some (aI T 42 12 (nI a)) := by
    unfold X11_lay_42
    rw [nI_1, m_a2, m_a3, if_pos (m_ix (show 5 * l + 1 < 50 by omega) (by decide)), if_pos (m_ix (show 5 * l + 2 < 50 by omega) (by decide)), if_pos (m_ix (show 5 * l + 3 < 50 by omega) (by decide)), if_pos (m_ix (show 5 * l < 50 by omega) (by decide)), nI_clamp (show 5 * l < 2 ^ 31 by omega), nI_clamp (show 5 * l + 1 < 2 ^ 31 by omega), nI_clamp (show 5 * l + 2 < 2 ^ 31 by omega), nI_clamp (show 5 * l + 3 < 2 ^ 31 by omega), h44, if_neg (by decide), if_neg (by decide), if_neg (by decide), if_neg (by decide), if_neg (by decide), if_neg (by decide), if_neg (by decide), if_pos (show nI 6 = (6 : Int32) from rfl)]
    rw [t0]
  refine ⟨_, _, q, ec, er, ⟨hE.fr fS fT (by decide), ⟨?_, ?_, ?_, ?_, ?_⟩, hDu.fr fS fT (by decide)⟩, ?_, Nat.le_refl _, Nat.le_succ _⟩
  · rw [fS.2.2 10 (by decide), fT.2.2 47 (by decide)]; exact hO.1
  · rw [fS.2.2 11 (by decide), fT.2.2 48 (by decide)]; exact hO.2.1
  · rw [fS.1 8 1 (by decide), fT.1 42 10 (by decide)]; exact hO.2.2.1
  · rw [fS.1 8 2 (by decide), fT.1 42 11 (by decide)]; exact hO.2.2.2.1
  · rw [gI, if_pos ⟨rfl, rfl⟩, gI, if_pos ⟨rfl, rfl⟩]; exact ⟨rfl, a, a9, rfl⟩
  · rw [fS.1 8 4 (by decide)]; exact hq
/-! book: a page's due -/
def dbit (d a : Nat) (on : Bool) : Nat := if on = true then (if d.testBit a = true then d else d + 2 ^ a) else (if d.testBit a = true then d - 2 ^ a else d)
theorem dbit_on : ∀ d, d < 64 → ∀ a, a < 6 → (nI d ||| ((1 : Int32) <<< (nI a &&& 31))) = nI (dbit d a true) := by decide +kernel
theorem dbit_off : ∀ d, d < 64 → ∀ a, a < 6 → (nI d &&& (((1 : Int32) <<< (nI a &&& 31)) ^^^ ((-1) : Int32))) = nI (dbit d a false) := by decide +kernel
theorem dbit_t : ∀ d, d < 64 → ∀ a, a < 6 → ∀ on : Bool, dbit d a on < 64 ∧ ∀ p, p < 6 → (dbit d a on).testBit p = if p = a then on else d.testBit p := by decide +kernel
theorem X6_set_12_eq {S : aSt} {i : Nat} {v : Int32} (h : i < 6) : X6_set_12 (nI i) v S = aA S 12 (upd (S.2.2 12) i v) := by
  unfold X6_set_12
  rw [if_neg (nI_pos (by omega)), if_neg (by exact iNLE 6 i h), nI_clamp (by omega)]
theorem c_setDue {N a c : Nat} {v : Int32} {S : aSt} (ha : a < 6) (hc : c < 2 ^ 31) : X2_setDue_8 N (nI a) (nI c) v S = some (aA (aA S 13 (upd (S.2.2 13) a (if c = 18 then 0 else 1))) 12 (upd (S.2.2 12) a (if c = 11 then -v else v))) := by
  have go : ∀ s : Int32, (s = 0 ∨ s = 1) → X2_setDue_8_b30 N (nI a) (nI c) v s (nI a) S = some (aA (aA S 13 (upd (S.2.2 13) a s)) 12 (upd (S.2.2 12) a (if c = 11 then -v else v))) := by
    intro s hs
    unfold X2_setDue_8_b30 X2_setDue_8_b48
    simp only [aLet]
    have hg : ∀ f : Nat → Int32, (aA S 13 f).2.2 12 = S.2.2 12 := fun f => by rw [gA, if_neg (by decide)]
    by_cases c11 : c = 11
    · have e : nI c = (11 : Int32) := by rw [c11]; rfl
      rw [if_pos c11, if_pos (m_ix ha (by decide)), if_pos hs, nI_clamp (by omega), if_pos e, X6_set_12_eq ha, hg]
    · have e : ¬ nI c = (11 : Int32) := iNE c 11 c11
      rw [if_neg c11, if_pos (m_ix ha (by decide)), if_pos hs, nI_clamp (by omega), if_neg e, X6_set_12_eq ha, hg]
  unfold X2_setDue_8
  rw [if_neg (nI_pos (by omega)), if_pos (by exact iLT a 6 ha)]
  by_cases c18 : c = 18
  · rw [if_pos c18, if_pos (by rw [c18]; rfl), go 0 (Or.inl rfl)]
  · rw [if_neg c18, if_neg (by exact iNE c 18 c18), go 1 (Or.inr rfl)]
theorem r_due7 {N l a c d : Nat} {T : aSt} (hl : l < 10) (ha : a < 6) (hc : c < 2 ^ 31) (hd : d < 64) (h44 : T.2.2 44 (5 * l) = nI 7) (t0 : T.2.2 44 (5 * l + 1) = nI a) (t1 : T.2.2 44 (5 * l + 2) = nI c) (h7 : T.1 42 7 = nI d) : X11_lay_42 N (nI (5 * l)) T = some (aA (aI T 42 7 (nI (dbit d a (decide (c ≠ 2))))) 46 (upd (T.2.2 46) a (if c = 0 then T.2.2 44 (5 * l + 3) else -(T.2.2 44 (5 * l + 3))))) := by
  unfold X11_lay_42
  rw [nI_1, m_a2, m_a3, if_pos (m_ix (show 5 * l + 1 < 50 by omega) (by decide)), if_pos (m_ix (show 5 * l + 2 < 50 by omega) (by decide)), if_pos (m_ix (show 5 * l + 3 < 50 by omega) (by decide)), if_pos (m_ix (show 5 * l < 50 by omega) (by decide)), nI_clamp (show 5 * l < 2 ^ 31 by omega), nI_clamp (show 5 * l + 1 < 2 ^ 31 by omega), nI_clamp (show 5 * l + 2 < 2 ^ 31 by omega), nI_clamp (show 5 * l + 3 < 2 ^ 31 by omega), h44, if_pos (by decide), t0, t1, h7, dbit_on d hd a ha, dbit_off d hd a ha]
  have go : ∀ s : Int32, X11_lay_42_b249 N (nI a) (nI c) (T.2.2 44 (5 * l + 3)) s T = some (aA (aI T 42 7 s) 46 (upd (T.2.2 46) a (if c = 0 then T.2.2 44 (5 * l + 3) else -(T.2.2 44 (5 * l + 3))))) := by
    intro s
    unfold X11_lay_42_b249
    rw [if_pos (m_ix ha (by decide)), if_pos (m_ix ha (by decide)), nI_clamp (by omega)]
    by_cases c0 : c = 0
    · rw [if_pos c0, if_pos (by rw [c0]; rfl)]
    · rw [if_neg c0, if_neg (by exact iNE c 0 c0)]
  by_cases c2 : c = 2
  · rw [if_pos (show nI c = (2 : Int32) from by rw [c2]; rfl), go, decide_eq_false (fun z => z c2)]
  · rw [if_neg (show ¬ nI c = (2 : Int32) from iNE c 2 c2), go, decide_eq_true c2]
theorem m_lay7 {N l q : Nat} {S T : aSt} (hl : l < 10) (h6 : S.2.2 6 l = nI 17) (h44 : T.2.2 44 (5 * l) = nI 7) (hD : dP l S T) (hQ : rQ S T) (hq : S.1 8 4 = nI q) : ∃ S' T' q', X2_takeLine_8_1 N (nI l) S = some S' ∧ X11_lay_42 N (nI (5 * l)) T = some T' ∧ rQ S' T' ∧ S'.1 8 4 = nI q' ∧ q ≤ q' ∧ q' ≤ q + 1 := by
  obtain ⟨hE, hO, d, hd, h7, hdd⟩ := hQ
  obtain ⟨a, a5, n0, hc⟩ := hD
  have s0 : S.2.2 7 (4 * l) = nI a := n0.1
  have t0 : T.2.2 44 (5 * l + 1) = nI a := n0.2
  have main : ∀ (c cr : Nat), c < 2 ^ 31 → S.2.2 7 (4 * l + 1) = nI c → T.2.2 44 (5 * l + 2) = nI cr → ((c = 18 ∧ cr = 2) ∨ ((c = 10 ∧ cr = 0 ∨ c = 11 ∧ cr = 1) ∧ S.2.2 7 (4 * l + 2) = T.2.2 44 (5 * l + 3))) → ∃ S' T' q', X2_takeLine_8_1 N (nI l) S = some S' ∧ X11_lay_42 N (nI (5 * l)) T = some T' ∧ rQ S' T' ∧ S'.1 8 4 = nI q' ∧ q ≤ q' ∧ q' ≤ q + 1 := by
    intro c cr hc31 s1 t1 hcc
    have fS : aFr ([], [], [12, 13]) S (aA (aA S 13 (upd (S.2.2 13) a (if c = 18 then 0 else 1))) 12 (upd (S.2.2 12) a (if c = 11 then -(S.2.2 7 (4 * l + 2)) else S.2.2 7 (4 * l + 2)))) := (aFr.rf.A 13 _ (by decide)).A 12 _ (by decide)
    have fT : aFr ([(42, 7)], [], [46]) T (aA (aI T 42 7 (nI (dbit d a (decide (cr ≠ 2))))) 46 (upd (T.2.2 46) a (if cr = 0 then T.2.2 44 (5 * l + 3) else -(T.2.2 44 (5 * l + 3))))) := (aFr.rf.I 42 7 _ (by decide)).A 46 _ (by decide)
    have ec : X2_takeLine_8_1 N (nI l) S = some (aA (aA S 13 (upd (S.2.2 13) a (if c = 18 then 0 else 1))) 12 (upd (S.2.2 12) a (if c = 11 then -(S.2.2 7 (4 * l + 2)) else S.2.2 7 (4 * l + 2)))) := by
      unfold X2_takeLine_8_1
      rw [(c_num hl).1, (c_num hl).2.1, X9_word_eq hl, h6, aLet, aLet, aLet, if_neg (by decide), if_neg (by decide), if_neg (by decide), if_neg (by decide), if_neg (by decide), if_neg (by decide), if_neg (by decide), if_neg (by decide), if_pos (show nI 17 = (17 : Int32) from rfl)]
      rw [(c_num hl).2.2, s0, s1, aLet, c_setDue (by omega) hc31]
      rfl
    have er := r_due7 (N := N) hl (show a < 6 by omega) (show cr < 2 ^ 31 by omega) hd h44 t0 t1 h7
    obtain ⟨b1, b2⟩ := dbit_t d hd a (by omega) (decide (cr ≠ 2))
    refine ⟨_, _, q, ec, er, ⟨hE.fr fS fT (by decide), hO.fr fS fT (by decide) (by decide), dbit d a (decide (cr ≠ 2)), b1, by rw [gAi, gI, if_pos ⟨rfl, rfl⟩], fun p hp => ?_⟩, ?_, Nat.le_refl _, Nat.le_succ _⟩
    · rw [gA, if_neg (by decide), gA, if_pos rfl, gA, if_pos rfl, gA, if_pos rfl, gU, gU, gU, b2 p hp]
      by_cases cp : p = a
      · rw [if_pos cp, if_pos cp, if_pos cp, if_pos cp]
        rcases hcc with ⟨rfl, rfl⟩ | ⟨⟨rfl, rfl⟩ | ⟨rfl, rfl⟩, hv⟩
        · exact ⟨rfl, fun z => absurd z (by decide)⟩
        · exact ⟨rfl, fun _ => hv⟩
        · exact ⟨rfl, fun _ => by rw [if_pos rfl, if_neg (by decide), hv]⟩
      · rw [if_neg cp, if_neg cp, if_neg cp, if_neg cp]
        exact hdd p hp
    · rw [fS.1 8 4 (by decide)]; exact hq
  rcases hc with ⟨x, x1, y1, y2, v, n2⟩ | ⟨y1, y2⟩
  · exact main (10 + x) x (by omega) y1 y2 (Or.inr ⟨by omega, n2.1.trans n2.2.symm⟩)
  · exact main 18 2 (by decide) y1 y2 (Or.inl ⟨rfl, rfl⟩)
theorem m_lay {N l w q : Nat} {S T : aSt} (hl : l < 10) (hw : w < 8) (h6 : S.2.2 6 l = nI (10 + w)) (h44 : T.2.2 44 (5 * l) = nI w) (hD : lnD l w S T) (hQ : rQ S T) (hq : S.1 8 4 = nI q) : ∃ S' T' q', X2_takeLine_8_1 N (nI l) S = some S' ∧ X11_lay_42 N (nI (5 * l)) T = some T' ∧ rQ S' T' ∧ S'.1 8 4 = nI q' ∧ q ≤ q' ∧ q' ≤ q + 1 := by
  rcases (show w = 0 ∨ w = 1 ∨ w = 2 ∨ w = 3 ∨ w = 4 ∨ w = 5 ∨ w = 6 ∨ w = 7 by omega) with rfl | rfl | rfl | rfl | rfl | rfl | rfl | rfl
  · exact m_lay0 hl h6 h44 hD hQ hq
  · exact m_lay1 hl h6 h44 hD hQ hq
  · exact m_lay2 hl h6 h44 hD hQ hq
  · exact m_lay3 hl h6 h44 hD hQ hq
  · exact m_lay4 hl h6 h44 hD hQ hq
  · exact m_lay5 hl h6 h44 hD hQ hq
  · exact m_lay6 hl h6 h44 hD hQ hq
  · exact m_lay7 hl h6 h44 hD hQ hq
