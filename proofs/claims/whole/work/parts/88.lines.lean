/-! a line: class and reference -/
theorem X6_set_6_eq {S : aSt} {i : Nat} {v : Int32} (h : i < 10) : X6_set_6 (nI i) v S = aA S 6 (upd (S.2.2 6) i v) := by
  unfold X6_set_6
  rw [if_neg (nI_pos (by omega)), if_neg (by exact iNLE 10 i h), nI_clamp (by omega)]
def lnS (S : aSt) (n k w : Nat) : aSt := aI (aA S 6 (upd (S.2.2 6) n (nI (10 + w)))) 1 8 (nI (k + 1))
theorem e_line0 {N n k : Nat} {S : aSt} (hn : n < 10) (hk : k < 201) (hS : S.1 1 8 = nI k) (h : S.2.2 3 k = (10 : Int32)) : X9_readLine_1 N (nI n) S = (cN (nI n) (nI 0) (nI 1) (nI 999999) (cN (nI n) (nI 1) (nI 0) (nI 7) (cN (nI n) (nI 2) (nI 0) (nI 3) (cN (nI n) (nI 3) (nI 0) (nI 5) fin)))) (lnS S n k 0) := by
  unfold X9_readLine_1
  rw [hS, X6_at_3_eq hk, h, aLet, if_neg (by decide), if_pos (by decide), X6_set_6_eq hn, aLet, gAi, hS, nI_1, if_neg (by decide), if_pos rfl]
  rfl
theorem e_rest0 {N : Nat} {T : aSt} : X11_readsRest_42 N (nI 0) T = (rN N (nI 0) (nI 1) (nI 999999) (rN N (nI 1) (nI 0) (nI 7) (rN N (nI 2) (nI 0) (nI 3) (rN N (nI 3) (nI 0) (nI 5) fin)))) T := by
  unfold X11_readsRest_42
  rw [if_neg (by decide), if_pos (show nI 0 = (0 : Int32) from rfl)]
  rfl
theorem e_line1 {N n k : Nat} {S : aSt} (hn : n < 10) (hk : k < 201) (hS : S.1 1 8 = nI k) (h : S.2.2 3 k = (11 : Int32)) : X9_readLine_1 N (nI n) S = (cN (nI n) (nI 0) (nI 1) (nI 999999) (cN (nI n) (nI 1) (nI 0) (nI 7) (cN (nI n) (nI 2) (nI 0) (nI 3) (cN (nI n) (nI 3) (nI 0) (nI 5) fin)))) (lnS S n k 1) := by
  unfold X9_readLine_1
  rw [hS, X6_at_3_eq hk, h, aLet, if_neg (by decide), if_pos (by decide), X6_set_6_eq hn, aLet, gAi, hS, nI_1, if_neg (by decide), if_neg (by decide), if_pos rfl]
  rfl
theorem e_rest1 {N : Nat} {T : aSt} : X11_readsRest_42 N (nI 1) T = (rN N (nI 0) (nI 1) (nI 999999) (rN N (nI 1) (nI 0) (nI 7) (rN N (nI 2) (nI 0) (nI 3) (rN N (nI 3) (nI 0) (nI 5) fin)))) T := by
  unfold X11_readsRest_42
  rw [if_neg (by decide), if_neg (by decide), if_pos (show nI 1 = (1 : Int32) from rfl)]
  rfl
theorem e_line2 {N n k : Nat} {S : aSt} (hn : n < 10) (hk : k < 201) (hS : S.1 1 8 = nI k) (h : S.2.2 3 k = (12 : Int32)) : X9_readLine_1 N (nI n) S = (cN (nI n) (nI 0) (nI 0) (nI 3) (cN (nI n) (nI 1) (nI 0) (nI 4) (cN (nI n) (nI 2) (nI 0) (nI 99) fin))) (lnS S n k 2) := by
  unfold X9_readLine_1
  rw [hS, X6_at_3_eq hk, h, aLet, if_neg (by decide), if_pos (by decide), X6_set_6_eq hn, aLet, gAi, hS, nI_1, if_neg (by decide), if_neg (by decide), if_neg (by decide), if_pos rfl]
  rfl
theorem e_rest2 {N : Nat} {T : aSt} : X11_readsRest_42 N (nI 2) T = (rN N (nI 0) (nI 0) (nI 3) (rN N (nI 1) (nI 0) (nI 4) (rN N (nI 2) (nI 0) (nI 99) fin))) T := by
  unfold X11_readsRest_42
  rw [if_neg (by decide), if_neg (by decide), if_neg (by decide), if_pos (show nI 2 = (2 : Int32) from rfl)]
  rfl
theorem e_line3 {N n k : Nat} {S : aSt} (hn : n < 10) (hk : k < 201) (hS : S.1 1 8 = nI k) (h : S.2.2 3 k = (13 : Int32)) : X9_readLine_1 N (nI n) S = (cN (nI n) (nI 0) (nI 0) (nI 9) (fun S => aLet (X6_at_5 (S.1 1 8) S) (fun w51 => aLet (X9_number_1 (nI n) (nI 0) S) (fun w53 => if w51 = w53 then some (0, S) else cN (nI n) (nI 1) (nI 0) (nI 9) (cN (nI n) (nI 2) (nI 0) (nI 99) fin) S)))) (lnS S n k 3) := by
  unfold X9_readLine_1
  rw [hS, X6_at_3_eq hk, h, aLet, if_neg (by decide), if_pos (by decide), X6_set_6_eq hn, aLet, gAi, hS, nI_1, if_neg (by decide), if_neg (by decide), if_neg (by decide), if_neg (by decide), if_pos rfl]
  rfl
theorem e_rest3 {N : Nat} {T : aSt} : X11_readsRest_42 N (nI 3) T = (rN N (nI 0) (nI 0) (nI 9) (fun T => Option.bind (X11_isNumber_42 N T) (fun w45 => if w45 = (0 : Int32) then rN N (nI 1) (nI 0) (nI 9) (rN N (nI 2) (nI 0) (nI 99) fin) T else Option.bind (X11_value_42 N T) (fun w54 => if aIx (((5 : Int32) * (T.1 42 3)) + (1 : Int32)) 50 = true then (if w54 = (T.2.2 44) (((5 : Int32) * (T.1 42 3)) + (1 : Int32)).toNatClampNeg then some (0, T) else rN N (nI 1) (nI 0) (nI 9) (rN N (nI 2) (nI 0) (nI 99) fin) T) else none)))) T := by
  unfold X11_readsRest_42
  rw [if_neg (by decide), if_neg (by decide), if_neg (by decide), if_neg (by decide), if_pos (show nI 3 = (3 : Int32) from rfl)]
  rfl
theorem e_line4 {N n k : Nat} {S : aSt} (hn : n < 10) (hk : k < 201) (hS : S.1 1 8 = nI k) (h : S.2.2 3 k = (14 : Int32)) : X9_readLine_1 N (nI n) S = (aLet (X9_takeNumber_1 (nI n) (0 : Int32) (0 : Int32) (99 : Int32) (lnS S n k 4)) (fun w => if w.1 = 0 ∨ w.1 = 1 then some (w.1, w.2) else none)) := by
  unfold X9_readLine_1
  rw [hS, X6_at_3_eq hk, h, aLet, if_neg (by decide), if_pos (by decide), X6_set_6_eq hn, aLet, gAi, hS, nI_1, if_neg (by decide), if_neg (by decide), if_neg (by decide), if_neg (by decide), if_neg (by decide), if_pos rfl]
  rfl
theorem e_rest4 {N : Nat} {T : aSt} : X11_readsRest_42 N (nI 4) T = (Option.bind (X11_reads_42 N (0 : Int32) (0 : Int32) (99 : Int32) T) (fun w => if w.1 = 0 ∨ w.1 = 1 then some (w.1, w.2) else none)) := by
  unfold X11_readsRest_42
  rw [if_neg (by decide), if_neg (by decide), if_neg (by decide), if_neg (by decide), if_neg (by decide), if_pos (show nI 4 = (4 : Int32) from rfl)]
theorem e_line5 {N n k : Nat} {S : aSt} (hn : n < 10) (hk : k < 201) (hS : S.1 1 8 = nI k) (h : S.2.2 3 k = (15 : Int32)) : X9_readLine_1 N (nI n) S = (aLet (X9_takeNumber_1 (nI n) (0 : Int32) (0 : Int32) (99 : Int32) (lnS S n k 5)) (fun w => if w.1 = 0 ∨ w.1 = 1 then some (w.1, w.2) else none)) := by
  unfold X9_readLine_1
  rw [hS, X6_at_3_eq hk, h, aLet, if_neg (by decide), if_pos (by decide), X6_set_6_eq hn, aLet, gAi, hS, nI_1, if_neg (by decide), if_neg (by decide), if_neg (by decide), if_neg (by decide), if_neg (by decide), if_neg (by decide), if_pos rfl]
  rfl
theorem e_rest5 {N : Nat} {T : aSt} : X11_readsRest_42 N (nI 5) T = (Option.bind (X11_reads_42 N (0 : Int32) (0 : Int32) (99 : Int32) T) (fun w => if w.1 = 0 ∨ w.1 = 1 then some (w.1, w.2) else none)) := by
  unfold X11_readsRest_42
  rw [if_neg (by decide), if_neg (by decide), if_neg (by decide), if_neg (by decide), if_neg (by decide), if_neg (by decide), if_pos (show nI 5 = (5 : Int32) from rfl)]
theorem e_line6 {N n k : Nat} {S : aSt} (hn : n < 10) (hk : k < 201) (hS : S.1 1 8 = nI k) (h : S.2.2 3 k = (16 : Int32)) : X9_readLine_1 N (nI n) S = (aLet (X9_takeNumber_1 (nI n) (0 : Int32) (0 : Int32) (99 : Int32) (lnS S n k 6)) (fun w => if w.1 = 0 ∨ w.1 = 1 then some (w.1, w.2) else none)) := by
  unfold X9_readLine_1
  rw [hS, X6_at_3_eq hk, h, aLet, if_neg (by decide), if_pos (by decide), X6_set_6_eq hn, aLet, gAi, hS, nI_1, if_neg (by decide), if_neg (by decide), if_neg (by decide), if_neg (by decide), if_neg (by decide), if_neg (by decide), if_neg (by decide), if_pos rfl]
  rfl
theorem e_rest6 {N : Nat} {T : aSt} : X11_readsRest_42 N (nI 6) T = (Option.bind (X11_reads_42 N (0 : Int32) (0 : Int32) (99 : Int32) T) (fun w => if w.1 = 0 ∨ w.1 = 1 then some (w.1, w.2) else none)) := by
  unfold X11_readsRest_42
  rw [if_neg (by decide), if_neg (by decide), if_neg (by decide), if_neg (by decide), if_neg (by decide), if_neg (by decide), if_neg (by decide), if_pos (show nI 6 = (6 : Int32) from rfl)]
theorem e_line7 {N n k : Nat} {S : aSt} (hn : n < 10) (hk : k < 201) (hS : S.1 1 8 = nI k) (h : S.2.2 3 k = (17 : Int32)) : X9_readLine_1 N (nI n) S = (cN (nI n) (nI 0) (nI 0) (nI 5) (fun S => wrapC (X9_readDue_1 (nI n) S))) (lnS S n k 7) := by
  unfold X9_readLine_1
  rw [hS, X6_at_3_eq hk, h, aLet, if_neg (by decide), if_pos (by decide), X6_set_6_eq hn, aLet, gAi, hS, nI_1, if_neg (by decide), if_neg (by decide), if_neg (by decide), if_neg (by decide), if_neg (by decide), if_neg (by decide), if_neg (by decide), if_neg (by decide), if_pos rfl]
  have hw : ∀ x : Int32 × aSt, aLet x (fun w78 => if w78.1 = (0 : Int32) then some ((0 : Int32), w78.2) else some ((1 : Int32), w78.2)) = wrapC x := fun x => rfl
  simp only [hw]
  rfl
theorem e_rest7 {N : Nat} {T : aSt} : X11_readsRest_42 N (nI 7) T = wr ((rN N (nI 0) (nI 0) (nI 5) (PG N)) T) := by
  unfold X11_readsRest_42
  rw [if_neg (by decide), if_neg (by decide), if_neg (by decide), if_neg (by decide), if_neg (by decide), if_neg (by decide), if_neg (by decide), if_neg (by decide), if_pos (show nI 7 = (7 : Int32) from rfl)]
  rfl
theorem m_rest {N t M n k w : Nat} {b : Nat → Int32} {S T0 : aSt} (hw : w < 8) (hN : 300 ≤ N) (ht : t ≤ 200) (hn : n < 10) (hk : k < 201) (hS : S.1 1 8 = nI k) (h3 : S.2.2 3 k = nI (10 + w)) (h : LK b t M n (k + 1) (lnS S n k w) T0) : LRR b t M n (lnS S n k w) T0 (lnD n w) (X9_readLine_1 N (nI n) S) (X11_readsRest_42 N (nI w) T0) := by
  rcases (show w = 0 ∨ w = 1 ∨ w = 2 ∨ w = 3 ∨ w = 4 ∨ w = 5 ∨ w = 6 ∨ w = 7 by omega) with rfl | rfl | rfl | rfl | rfl | rfl | rfl | rfl
  · rw [e_line0 hn hk hS h3, e_rest0]
    exact (l_left hN ht hn h)
  · rw [e_line1 hn hk hS h3, e_rest1]
    exact (l_left hN ht hn h)
  · rw [e_line2 hn hk hS h3, e_rest2]
    exact (l_hand hN ht hn h)
  · rw [e_line3 hn hk hS h3, e_rest3]
    exact (l_read hN ht hn h)
  · rw [e_line4 hn hk hS h3, e_rest4]
    exact (l_one hN ht hn h)
  · rw [e_line5 hn hk hS h3, e_rest5]
    exact (l_one hN ht hn h)
  · rw [e_line6 hn hk hS h3, e_rest6]
    exact (l_one hN ht hn h)
  · rw [e_line7 hn hk hS h3, e_rest7]
    exact (l_page hN ht hn h).wr
theorem m_line {N t M n k : Nat} {b : Nat → Int32} {S T : aSt} (hN : 300 ≤ N) (ht : t ≤ 200) (hn : n < 10) (h : LK b t M n k S T) : ∃ k' S' T', (X9_readLine_1 N (nI n) S = some (0, S') ∧ X11_readsLine_42 N T = some (0, T') ∧ LK b t M n k' S' T') ∨ (X9_readLine_1 N (nI n) S = some (1, S') ∧ X11_readsLine_42 N T = some (1, T') ∧ LK b t M (n + 1) k' S' T' ∧ S'.1 1 1 = S.1 1 1 ∧ (∀ i, i < n → S'.2.2 6 i = S.2.2 6 i) ∧ (∀ i, i < 4 * n → S'.2.2 7 i = S.2.2 7 i) ∧ (∀ i, i < 5 * n → T'.2.2 44 i = T.2.2 44 i) ∧ ∃ w, w < 8 ∧ S'.2.2 6 n = nI (10 + w) ∧ T'.2.2 44 (5 * n) = nI w ∧ lnD n w S' T') := by
  have h' := h
  obtain ⟨hTS, hk, hS, hT, h3⟩ := h
  have hTS' := hTS
  obtain ⟨m1, m2, m3, m4⟩ := hTS
  have hp := pos_le b t k
  have tk := m4 k (by omega)
  rcases r_cascade hN ht hp hT with ⟨w, hw, hW, er⟩ | ⟨hno, er⟩
  · have hM : k + 1 ≤ M := by
      have hs := isW_sC (show w < 9 by omega) hW
      rcases Nat.lt_or_ge k M with q | q
      · omega
      · exfalso
        have ek : k = M := by omega
        have h2 := hs.2
        rw [ek, m2] at h2
        unfold en at h2
        rw [if_neg (Nat.lt_irrefl t)] at h2
        omega
    obtain ⟨t1, t16, t17, t15, tb⟩ := hT
    have hen := en_le (b := b) hp
    obtain ⟨V, v1, v2⟩ := r_token hN ht hen.2.1 t15 t1 tb
    have fV := F_X11_token_42 _ _ v1
    have V3 : V.1 42 3 = nI n := by rw [fV.1 42 3 (by decide)]; exact h3
    have L0 : LK b t M n (k + 1) (lnS S n k w) (aA V 44 (upd (V.2.2 44) (5 * n) (nI w))) := by
      refine ⟨(hTS'.A (by decide)).I, hM, ?_, ?_, ?_⟩
      · unfold lnS; rw [gI, if_pos ⟨rfl, rfl⟩]
      · unfold tkR
        rw [gAi, gAi, gAi, gAi, gA, if_neg (by decide)]
        exact v2
      · rw [gAi]; exact V3
    have h3k : S.2.2 3 k = nI (10 + w) := by rw [tk.2.1]; exact (tc_w (by omega) hp).mpr hW
    obtain ⟨k', S', T', r, c1, c2, l, ag, hr⟩ := m_rest hw hN ht hn (by omega) hS h3k L0
    have run : X11_readsLine_42 N T = (if r = (0 : Int32) then some (0, T') else some (1, aI T' 42 3 (T'.1 42 3 + 1))) := by
      rw [er]
      unfold X11_readsLine_42_b117
      rw [if_neg (nI_m1 (by omega)), v1]
      simp only [Option.bind_some]
      rw [V3, m_50, if_pos (m_ix (show 5 * n < 50 by omega) (by decide)), nI_clamp (by omega), c2]
      simp only [Option.bind_some]
    have s11 : S'.1 1 1 = S.1 1 1 := by rw [ag.2.1]; unfold lnS; rw [gI, if_neg (by decide), gAi]
    have s6 : S'.2.2 6 = upd (S.2.2 6) n (nI (10 + w)) := by rw [ag.1]; unfold lnS; rw [gIa, gA, if_pos rfl]
    have s7 : ∀ i, i < 4 * n → S'.2.2 7 i = S.2.2 7 i := by
      intro i hi
      rw [ag.2.2.1 i hi]; unfold lnS; rw [gIa, gA, if_neg (by decide)]
    have s44 : ∀ i, i < 5 * n + 1 → T'.2.2 44 i = upd (T.2.2 44) (5 * n) (nI w) i := by
      intro i hi
      rw [ag.2.2.2 i hi, gA, if_pos rfl, fV.2.2 44 (by decide)]
    rcases hr with hr | ⟨hr, hD⟩
    · subst hr
      rw [if_pos rfl] at run
      exact ⟨k', S', T', Or.inl ⟨c1, run, l⟩⟩
    · subst hr
      rw [if_neg n10, l.2.2.2.2, nI_1] at run
      refine ⟨k', S', aI T' 42 3 (nI (n + 1)), Or.inr ⟨c1, run, ⟨l.1, l.2.1, l.2.2.1, ?_, by rw [gI, if_pos ⟨rfl, rfl⟩]⟩, s11, ?_, s7, ?_, w, hw, ?_, ?_, hD⟩⟩
      · unfold tkR
        rw [gI, if_neg (by decide), gI, if_neg (by decide), gI, if_neg (by decide), gI, if_neg (by decide), gIa]
        exact l.2.2.2.1
      · intro i hi
        rw [s6, gU, if_neg (by omega)]
      · intro i hi
        rw [gIa, s44 i (by omega), gU, if_neg (by omega)]
      · rw [s6, gU, if_pos rfl]
      · rw [gIa, s44 (5 * n) (by omega), gU, if_pos rfl]
  · refine ⟨k, S, T, Or.inl ⟨?_, ?_, h'⟩⟩
    · have hx : ∀ w, w < 8 → ¬ tc b t (pos b t k) = nI (10 + w) := fun w hw z => hno w hw ((tc_w (by omega) hp).mp z)
      have hv : tc b t (pos b t k) = 0 ∨ tc b t (pos b t k) = 1 ∨ tc b t (pos b t k) = 2 ∨ tc b t (pos b t k) = 3 ∨ tc b t (pos b t k) = nI 18 := by
        have hwk := wk_le b (pos b t k) (en b t (pos b t k))
        generalize ht9 : tc b t (pos b t k) = v at hx
        unfold tc at ht9
        by_cases c : pos b t k < t
        · rw [if_pos c] at ht9
          by_cases c1 : sC (b (pos b t k)) = 1
          · rw [if_pos c1] at ht9
            by_cases c9 : wk b (pos b t k) (en b t (pos b t k)) = 9
            · rw [if_pos c9] at ht9
              exact Or.inr (Or.inr (Or.inr (Or.inl ht9.symm)))
            · rw [if_neg c9] at ht9
              by_cases c8 : wk b (pos b t k) (en b t (pos b t k)) = 8
              · rw [c8] at ht9
                exact Or.inr (Or.inr (Or.inr (Or.inr ht9.symm)))
              · exact absurd ht9.symm (hx _ (by omega))
          · rw [if_neg c1] at ht9
            by_cases c2 : sC (b (pos b t k)) = 2
            · rw [if_pos c2] at ht9
              exact Or.inr (Or.inl ht9.symm)
            · rw [if_neg c2] at ht9
              by_cases c3 : b (pos b t k) = 59
              · rw [if_pos c3] at ht9
                exact Or.inr (Or.inr (Or.inl ht9.symm))
              · rw [if_neg c3] at ht9
                exact Or.inr (Or.inr (Or.inr (Or.inl ht9.symm)))
        · rw [if_neg c] at ht9
          exact Or.inl ht9.symm
      unfold X9_readLine_1
      rw [hS, X6_at_3_eq (by omega), tk.2.1, aLet]
      rcases hv with e | e | e | e | e
      · rw [e, if_pos (by decide)]
      · rw [e, if_pos (by decide)]
      · rw [e, if_pos (by decide)]
      · rw [e, if_pos (by decide)]
      · rw [e, if_neg (by decide), if_neg (by decide)]
    · rw [er]
      unfold X11_readsLine_42_b117
      rw [if_pos rfl]
