/-! pairs: the reference's -/
def psR (S : aSt) (t : Ps) : Prop := S.2.1 42 26 = lN t.1 ∧ S.2.1 42 27 = lN t.2.1 ∧ S.1 42 28 = t.2.2.2.1 ∧ S.1 42 29 = t.2.2.2.2
theorem psR.fr {W : aWr} {S T : aSt} {t : Ps} (h : psR S t) (f : aFr W S T) (q : (42, 26) ∉ W.2.1 ∧ (42, 27) ∉ W.2.1 ∧ (42, 28) ∉ W.1 ∧ (42, 29) ∉ W.1) : psR T t := by
  obtain ⟨q1, q2, q3, q4⟩ := q
  unfold psR
  rw [f.2.1 _ _ q1, f.2.1 _ _ q2, f.1 _ _ q3, f.1 _ _ q4]
  exact h
theorem r_slA {S : aSt} {D : Dt} {i : Nat} (h : slR S (SL D)) (ok : okD D) (hi : i < nA D) : aIx (nI i) 2048 = true ∧ (nI i).toNatClampNeg = i ∧ S.2.2 50 i = nI (kA D i) ∧ S.2.2 51 i = nI (pA D i) ∧ S.2.2 53 i = cA D i ∧ S.2.2 54 i = nI (wA D i) := by
  obtain ⟨s1, s2, h1, h2, -, h4, h5⟩ := r_slip h (SL_len ok) hi
  exact ⟨s1, s2, h1, h2, h4, h5⟩
theorem r_arePair {N a b : Nat} {S : aSt} {D : Dt} (h : slR S (SL D)) (ok : okD D) (ha : a < nA D) (hb : b < nA D) : X11_arePair_42 N (nI a) (nI b) S = some (b32 (decide (kA D a ≠ 5) && decide (kA D b ≠ 5) && apart D a b)) := by
  obtain ⟨a1, a2, a3, a4, -, -⟩ := r_slA h ok ha
  obtain ⟨b1, b2, b3, b4, -, -⟩ := r_slA h ok hb
  obtain ⟨-, -, ka, pa⟩ := wA_ok ok ha
  obtain ⟨-, -, kb, pb⟩ := wA_ok ok hb
  unfold X11_arePair_42 X11_arePair_42_b16 X11_arePair_42_b54 apart
  simp only [a1, b1, a2, b2, a3, b3, a4, b4, if_true]
  have ep : (nI (pA D a) = nI (pA D b)) ↔ pA D a = pA D b := nI_eq pa pb
  have ea : (nI (kA D a) = (6 : Int32)) ↔ kA D a = 6 := nI_eq (b := 6) ka (by decide)
  have eb : (nI (kA D b) = (6 : Int32)) ↔ kA D b = 6 := nI_eq (b := 6) kb (by decide)
  have ea5 : (nI (kA D a) = (5 : Int32)) ↔ kA D a = 5 := nI_eq (b := 5) ka (by decide)
  have eb5 : (nI (kA D b) = (5 : Int32)) ↔ kA D b = 5 := nI_eq (b := 5) kb (by decide)
  simp only [ep, ea, eb, ea5, eb5]
  by_cases c5 : kA D a = 5
  · simp [c5, b32]
  · by_cases d5 : kA D b = 5
    · simp [c5, d5, b32]
    · by_cases c1 : kA D a = 6
      · by_cases c2 : kA D b = 6
        · by_cases c3 : pA D a = pA D b
          · simp [c1, c2, c3, b32]
          · simp [c1, c2, c3, b32]
        · simp [c1, c2, d5, b32]
      · by_cases c2 : kA D b = 6
        · simp [c1, c2, c5, b32]
        · by_cases c3 : pA D a = pA D b
          · simp [c1, c2, c3, c5, d5, b32]
          · simp [c1, c2, c3, c5, d5, b32]
theorem r_inn {N a : Nat} {D : Dt} {w : Int32} {rec25 : Int32 → Int64 → Int32 → aSt → Option aSt} (ok : okD D) (ha : a < nA D) : ∀ (r n f : Nat) (t : Ps) (S : aSt), r ≤ nA D - (a + 1) → r < f → slR S (SL D) → okPs t n → n + r ≤ 3690241 → psR S t → ∃ T, X11_layPairs_42_l40 N rec25 f w (lN t.2.2.1) (nI a) (nI (nA D - r)) S = rec25 w (lN (inn D a (w - cA D a) r t).2.2.1) (nI (a + 1)) T ∧ psR T (inn D a (w - cA D a) r t) ∧ aFr W_X11_layPairs_42 S T := by
  have hlen : nA D ≤ 1921 := SL_len ok
  intro r
  induction r with
  | zero =>
    intro n f t S hr hf hS ht hn hp
    obtain ⟨f, rfl⟩ : ∃ q, f = q + 1 := ⟨f - 1, by omega⟩
    refine ⟨S, ?_, hp, aFr.rf⟩
    show X11_layPairs_42_b40 N rec25 (X11_layPairs_42_l40 N rec25 f) _ _ _ _ _ = _
    unfold X11_layPairs_42_b40 X11_layPairs_42_b147
    rw [hS.1, if_pos (show nI (SL D).length ≤ nI (nA D - 0) from Int32.le_refl _), nI_1]
    rfl
  | succ r ih =>
    intro n f t S hr hf hS ht hn hp
    obtain ⟨f, rfl⟩ : ∃ q, f = q + 1 := ⟨f - 1, by omega⟩
    have hb : nA D - (r + 1) < nA D := by omega
    have e1 : nA D - (r + 1) + 1 = nA D - r := by omega
    have hab : a < nA D - (r + 1) := by omega
    rw [inn]
    generalize hbb : nA D - (r + 1) = b at *
    obtain ⟨a1, a2, a3, a4, a5, a6⟩ := r_slA hS ok ha
    obtain ⟨b1, b2, b3, b4, b5, b6⟩ := r_slA hS ok hb
    have w1 := wA_ok ok ha
    have w2 := wA_ok ok hb
    have hw : wA D a * wA D b ≤ 9801 * 9801 := Nat.mul_le_mul w1.2.1 w2.2.1
    have hpos : 1 * 1 ≤ wA D a * wA D b := Nat.mul_le_mul w1.1 w2.1
    have stay : pk D a b (w - cA D a) = false → ∃ T, X11_layPairs_42_b141 N rec25 (X11_layPairs_42_l40 N rec25 f) w (lN t.2.2.1) (nI a) (nI b) S = rec25 w (lN (inn D a (w - cA D a) r (if pk D a b (w - cA D a) = true then pst D a b t else t)).2.2.1) (nI (a + 1)) T ∧ psR T (inn D a (w - cA D a) r (if pk D a b (w - cA D a) = true then pst D a b t else t)) ∧ aFr W_X11_layPairs_42 S T := fun hpk => by
      rw [hpk, if_neg (by decide)]
      unfold X11_layPairs_42_b141
      rw [nI_1, e1]
      exact ih n f t S (by omega) (by omega) hS ht (by omega) hp
    show ∃ T, X11_layPairs_42_b40 N rec25 (X11_layPairs_42_l40 N rec25 f) _ _ _ _ _ = _ ∧ _
    unfold X11_layPairs_42_b40
    rw [hS.1, if_neg (by exact iNLE (nA D) b (by omega)), if_pos a1, if_pos b1, a2, b2, a5, b5]
    by_cases c2 : cA D b = w - cA D a
    · rw [if_pos (show cA D a + cA D b = w by rw [Int32.add_comm]; exact Int32.eq_sub_iff_add_eq.mp c2), r_arePair hS ok ha hb]
      simp only [Option.bind_some]
      cases c4 : (decide (kA D a ≠ 5) && decide (kA D b ≠ 5) && apart D a b) with
      | false =>
        rw [if_pos (show b32 false = 0 from rfl)]
        refine stay ?_
        unfold pk
        rw [decide_eq_true hab, decide_eq_true c2, Bool.and_true, Bool.and_true]
        exact c4
      | true =>
        rw [if_neg (show ¬ b32 true = 0 by decide), if_pos a1, if_pos b1, a6, b6, nI_l (by omega), nI_l (by omega), lN_mul]
        have hpk : pk D a b (w - cA D a) = true := by
          unfold pk
          rw [decide_eq_true hab, decide_eq_true c2, Bool.and_true, Bool.and_true]
          exact c4
        rw [hpk, if_pos rfl]
        obtain ⟨p1, p2, p3, p4⟩ := hp
        have key : (lg_cmp (lN (wA D a * wA D b)) (lN t.2.2.1) ≤ 0) ↔ ¬ t.2.2.1 < wA D a * wA D b := by
          rw [m_lgle, pk_lLT (by have := ht.2.2.1; omega) (by omega)]
        have hok := okPs_pst ok ha hb ht
        by_cases c : t.2.2.1 < wA D a * wA D b
        · rw [if_neg (fun z => key.mp z c)]
          generalize hS2 : aI (aI (aL (aL S 42 26 (S.2.1 42 26 + 1)) 42 27 (S.2.1 42 27 + lN (wA D a * wA D b))) 42 28 (nI a)) 42 29 (nI b) = S2
          have fr : aFr W_X11_layPairs_42 S S2 := by
            rw [← hS2]; exact (((aFr.rf.L 42 26 _ (by decide)).L 42 27 _ (by decide)).I 42 28 _ (by decide)).I 42 29 _ (by decide)
          have hp2 : psR S2 (pst D a b t) := by
            rw [← hS2]
            unfold pst
            refine ⟨?_, ?_, ?_, ?_⟩
            · simp [gIl, gL, p1, lN_1]
            · simp [gIl, gL, p2, lN_add]
            · simp only [if_pos c, gI]; simp
            · simp only [if_pos c, gI]; simp
          have eg : (pst D a b t).2.2.1 = wA D a * wA D b := if_pos c
          obtain ⟨T, u1, u2, u3⟩ := ih (n + 1) f (pst D a b t) S2 (by omega) (by omega) (hS.fr fr (by decide)) hok (by omega) hp2
          refine ⟨T, ?_, u2, fr.tr u3⟩
          rw [← u1, eg]
          unfold X11_layPairs_42_b141
          rw [nI_1, e1]
        · rw [if_pos (key.mpr c)]
          generalize hS2 : aL (aL S 42 26 (S.2.1 42 26 + 1)) 42 27 (S.2.1 42 27 + lN (wA D a * wA D b)) = S2
          have fr : aFr W_X11_layPairs_42 S S2 := by
            rw [← hS2]; exact (aFr.rf.L 42 26 _ (by decide)).L 42 27 _ (by decide)
          have hp2 : psR S2 (pst D a b t) := by
            rw [← hS2]
            unfold pst
            refine ⟨?_, ?_, ?_, ?_⟩
            · simp [gL, p1, lN_1]
            · simp [gL, p2, lN_add]
            · simp only [if_neg c, gLi]; exact p3
            · simp only [if_neg c, gLi]; exact p4
          have eg : (pst D a b t).2.2.1 = t.2.2.1 := if_neg c
          obtain ⟨T, u1, u2, u3⟩ := ih (n + 1) f (pst D a b t) S2 (by omega) (by omega) (hS.fr fr (by decide)) hok (by omega) hp2
          refine ⟨T, ?_, u2, fr.tr u3⟩
          rw [← u1, eg]
          unfold X11_layPairs_42_b141
          rw [nI_1, e1]
    · rw [if_neg (fun z => c2 (Int32.eq_sub_iff_add_eq.mpr (by rw [Int32.add_comm]; exact z)))]
      exact stay (by unfold pk; rw [decide_eq_false c2]; simp)
theorem r_outr {N : Nat} {D : Dt} {w : Int32} (hN : 3000 ≤ N) (ok : okD D) : ∀ (r n f : Nat) (t : Ps) (S : aSt), r ≤ nA D → r < f → slR S (SL D) → okPs t n → n + r * nA D ≤ 3690241 → psR S t → ∃ T, X11_layPairs_42_l25 N f w (lN t.2.2.1) (nI (nA D - r)) S = some T ∧ psR T (outr D w r t) ∧ aFr W_X11_layPairs_42 S T := by
  have hlen : nA D ≤ 1921 := SL_len ok
  intro r
  induction r with
  | zero =>
    intro n f t S hr hf hS ht hn hp
    obtain ⟨f, rfl⟩ : ∃ q, f = q + 1 := ⟨f - 1, by omega⟩
    refine ⟨S, ?_, hp, aFr.rf⟩
    show X11_layPairs_42_b25 N (X11_layPairs_42_l25 N f) _ _ _ _ = _
    unfold X11_layPairs_42_b25
    rw [hS.1, if_pos (show nI (SL D).length ≤ nI (nA D - 0) from Int32.le_refl _)]
  | succ r ih =>
    intro n f t S hr hf hS ht hn hp
    obtain ⟨f, rfl⟩ : ∃ q, f = q + 1 := ⟨f - 1, by omega⟩
    have ha : nA D - (r + 1) < nA D := by omega
    have e1 : nA D - (r + 1) + 1 = nA D - r := by omega
    rw [Nat.add_mul, Nat.one_mul] at hn
    rw [outr]
    generalize hab : nA D - (r + 1) = a at *
    obtain ⟨T1, u1, u2, u3⟩ := r_inn (N := N) (w := w) (rec25 := X11_layPairs_42_l25 N f) ok ha (nA D - (a + 1)) n N t S (Nat.le_refl _) (by omega) hS ht (by omega) hp
    have hk := inn_skip (c := w - cA D a) ha (nA D) t (by omega) (Nat.le_refl _)
    rw [← hk] at u1 u2
    obtain ⟨T, v1, v2, v3⟩ := ih (n + nA D) f _ T1 (by omega) (by omega) (hS.fr u3 (by decide)) (okPs_inn ok ha (nA D) n t (Nat.le_refl _) ht) (by omega) u2
    refine ⟨T, ?_, v2, u3.tr v3⟩
    rw [← v1, ← e1, ← u1]
    show X11_layPairs_42_b25 N (X11_layPairs_42_l25 N f) _ _ _ _ = _
    unfold X11_layPairs_42_b25
    rw [hS.1, if_neg (by exact iNLE (nA D) a (by omega)), nI_1]
    congr 2
    omega
theorem r_pairs {N : Nat} {D : Dt} {w : Int32} {S : aSt} (hN : 3000 ≤ N) (ok : okD D) (hS : slR S (SL D)) : ∃ T, X11_layPairs_42 N w S = some T ∧ psR T (pairsOf D w) ∧ aFr W_X11_layPairs_42 S T := by
  have hlen : nA D ≤ 1921 := SL_len ok
  have fr : aFr W_X11_layPairs_42 S (aI (aI (aL (aL S 42 26 (0 : Int64)) 42 27 (0 : Int64)) 42 28 (-1 : Int32)) 42 29 (-1 : Int32)) := (((aFr.rf.L 42 26 _ (by decide)).L 42 27 _ (by decide)).I 42 28 _ (by decide)).I 42 29 _ (by decide)
  have h0 : okPs ps0 0 := ⟨by decide, by decide, by decide, fun _ => ⟨rfl, rfl⟩, fun z => absurd rfl z⟩
  have hb : nA D * nA D ≤ 1921 * 1921 := Nat.mul_le_mul hlen hlen
  obtain ⟨T, t1, t2, t3⟩ := r_outr (N := N) (w := w) hN ok (nA D) 0 N ps0 _ (Nat.le_refl _) (by omega) (hS.fr fr (by decide)) h0 (by omega) ⟨by simp [gIl, gL]; rfl, by simp [gIl, gL]; rfl, by simp [gI]; rfl, by simp [gI]; rfl⟩
  refine ⟨T, ?_, t2, fr.tr t3⟩
  rw [Nat.sub_self] at t1
  exact t1
