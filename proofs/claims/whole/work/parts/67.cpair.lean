/-! pairs: the class's -/
def psC28 (S : aSt) (t : Ps) : Prop := S.2.1 28 0 = lN t.1 ∧ S.2.1 28 1 = lN t.2.1 ∧ S.2.1 28 4 = lN t.2.2.1 ∧ (t.1 ≠ 0 → S.1 28 2 = t.2.2.2.1 ∧ S.1 28 3 = t.2.2.2.2)
theorem psC28.fr {W : aWr} {S T : aSt} {t : Ps} (h : psC28 S t) (f : aFr W S T) (q : (28, 0) ∉ W.2.1 ∧ (28, 1) ∉ W.2.1 ∧ (28, 4) ∉ W.2.1 ∧ (28, 2) ∉ W.1 ∧ (28, 3) ∉ W.1) : psC28 T t := by
  obtain ⟨q1, q2, q3, q4, q5⟩ := q
  unfold psC28
  rw [f.2.1 _ _ q1, f.2.1 _ _ q2, f.2.1 _ _ q3, f.1 _ _ q4, f.1 _ _ q5]
  exact h
theorem c_take28 {S : aSt} {D : Dt} {a b n : Nat} {t : Ps} (h : slC S (SL D)) (ok : okD D) (ha : a < nA D) (hb : b < nA D) (ht : okPs t n) (hn : n ≤ 3690241) (hp : psC28 S t) : psC28 (X5_take_28 (nI a) (nI b) S) (pst D a b t) := by
  obtain ⟨-, -, -, a4⟩ := c_slA h ok ha
  obtain ⟨-, -, -, b4⟩ := c_slA h ok hb
  have w1 := wA_ok ok ha
  have w2 := wA_ok ok hb
  have hw : wA D a * wA D b ≤ 9801 * 9801 := Nat.mul_le_mul w1.2.1 w2.2.1
  have hpos : 1 * 1 ≤ wA D a * wA D b := Nat.mul_le_mul w1.1 w2.1
  obtain ⟨p1, p2, p3, p4⟩ := hp
  unfold X5_take_28
  simp only [aLet]
  rw [a4, b4, nI_l (by omega), nI_l (by omega), lN_mul, p1, p2, p3, lN_1, lN_add]
  have key : (lg_cmp (lN (wA D a * wA D b)) (lN t.2.2.1) ≤ 0) ↔ ¬ t.2.2.1 < wA D a * wA D b := by
    rw [m_lgle, pk_lLT (by have := ht.2.2.1; omega) (by omega)]
  unfold pst
  by_cases c : t.2.2.1 < wA D a * wA D b
  · rw [if_neg (fun z => key.mp z c)]
    refine ⟨?_, ?_, ?_, fun _ => ⟨?_, ?_⟩⟩
    · simp [gIl, gL]
    · simp [gIl, gL]
    · simp only [if_pos c, gIl, gL]; simp
    · simp only [if_pos c, gI]; simp
    · simp only [if_pos c, gI]; simp
  · rw [if_pos (key.mpr c)]
    have hm : t.1 ≠ 0 := fun z => by have := (ht.2.2.2.1 z).1; omega
    obtain ⟨q1, q2⟩ := p4 hm
    refine ⟨?_, ?_, ?_, fun _ => ⟨?_, ?_⟩⟩
    · simp [gIl, gL]
    · simp [gIl, gL]
    · simp only [if_neg c, gL, p3]; simp
    · simp only [if_neg c, gLi]; exact q1
    · simp only [if_neg c, gLi]; exact q2
theorem c_with28 {N a : Nat} {D : Dt} {c : Int32} (ok : okD D) (ha : a < nA D) (hk : kA D a ≠ 5) : ∀ (r n st f : Nat) (t : Ps) (S : aSt), r ≤ nA D → st + r ≤ nA D → r < f → slC S (SL D) → chC S D → okPs t n → n + r ≤ 3690241 → psC28 S t → ∃ T, X5_findWith_28_l12 N f (nI a) c (fsr D (hs c) r) (nI st) S = some T ∧ psC28 T (inn D a c r t) ∧ aFr W_X5_find_28 S T := by
  have hlen : nA D ≤ 1921 := SL_len ok
  intro r
  induction r with
  | zero =>
    intro n st f t S hr hst hf hS hC ht hn hp
    obtain ⟨f, rfl⟩ : ∃ q, f = q + 1 := ⟨f - 1, by omega⟩
    refine ⟨S, ?_, hp, aFr.rf⟩
    show X5_findWith_28_b12 N (X5_findWith_28_l12 N f) _ _ _ _ _ = _
    unfold X5_findWith_28_b12
    rw [fsr, if_pos rfl]
  | succ r ih =>
    intro n st f t S hr hst hf hS hC ht hn hp
    obtain ⟨f, rfl⟩ : ∃ q, f = q + 1 := ⟨f - 1, by omega⟩
    have hb : nA D - (r + 1) < nA D := by omega
    by_cases ch : hs (cA D (nA D - (r + 1))) = hs c
    · generalize hbb : nA D - (r + 1) = b at *
      obtain ⟨b1, b2, b3, b4⟩ := c_slA hS ok hb
      obtain ⟨-, -, kb, -⟩ := wA_ok ok hb
      have e21 : ∀ T : aSt, T.2.2 21 = S.2.2 21 → X8_nextInChain_14 (nI b) T = fsr D (hs c) r := fun T hT => by
        unfold X8_nextInChain_14 X6_at_21
        simp only [aLet]
        rw [if_neg (nI_pos (by omega)), if_neg (by exact iNLE 1921 b (by omega)), nI_clamp (by omega), hT, hC.2 b hb, ch]
        congr 1; omega
      have step : ∀ (T1 : aSt) (t1 : Ps), okPs t1 (n + 1) → psC28 T1 t1 → aFr W_X5_find_28 S T1 → ∃ T, X5_findWith_28_b72 N (X5_findWith_28_l12 N f) (nI a) c (nI b) (nI st) T1 = some T ∧ psC28 T (inn D a c r t1) ∧ aFr W_X5_find_28 S T := by
        intro T1 t1 k1 k2 k3
        obtain ⟨T, u1, u2, u3⟩ := ih (n + 1) (st + 1) f t1 T1 (by omega) (by omega) (by omega) (rows_fr hS k3 (by decide)) (hC.fr k3 (by decide)) k1 (by omega) k2
        refine ⟨T, ?_, u2, k3.tr u3⟩
        rw [← u1]
        unfold X5_findWith_28_b72
        simp only [aLet]
        rw [e21 T1 (k3.2.2 21 (by decide)), nI_1]
      have stay : pk D a b c = false → ∃ T, X5_findWith_28_b72 N (X5_findWith_28_l12 N f) (nI a) c (nI b) (nI st) S = some T ∧ psC28 T (inn D a c (r + 1) t) ∧ aFr W_X5_find_28 S T := fun hpk => by
        rw [inn, hbb, hpk, if_neg (by decide)]
        exact step S t (okPs_mono ht (by omega)) hp aFr.rf
      show ∃ T, X5_findWith_28_b12 N (X5_findWith_28_l12 N f) _ _ _ _ _ = _ ∧ _
      unfold X5_findWith_28_b12
      simp only [aLet]
      rw [fsr, hbb, if_pos ch, if_neg (nI_m1 (by omega)), if_neg (by exact iNLE 1921 st (by omega)), b1, b3, c_apart hS ok ha hb]
      by_cases c1 : b ≤ a
      · rw [if_pos (by exact iLE b a c1)]
        exact stay (by unfold pk; rw [decide_eq_false (show ¬ a < b by omega)]; simp)
      · rw [if_neg (by exact iNLE b a (by omega))]
        by_cases c2 : cA D b = c
        · rw [if_pos c2]
          by_cases c3 : kA D b = 5
          · rw [if_pos (by rw [c3]; rfl)]
            exact stay (by unfold pk; rw [decide_eq_false (show ¬ (kA D b ≠ 5) from fun z => z c3)]; simp)
          · rw [if_neg (by exact iNE (kA D b) 5 c3 rfl rfl kb)]
            cases c4 : apart D a b with
            | false =>
              rw [if_pos (show b32 false = 0 from rfl)]
              exact stay (by unfold pk; rw [c4]; simp)
            | true =>
              rw [if_neg (show ¬ b32 true = 0 by decide)]
              have hpk : pk D a b c = true := by
                unfold pk
                rw [c4, decide_eq_true hk, decide_eq_true (show a < b by omega), decide_eq_true c2, decide_eq_true c3]
                rfl
              rw [inn, hbb, hpk, if_pos rfl]
              exact step _ _ (okPs_pst ok ha hb ht) (c_take28 hS ok ha hb ht (by omega) hp) ((F_X5_take_28 _ _ _ rfl).mono (by decide))
        · rw [if_neg c2]
          exact stay (by unfold pk; rw [decide_eq_false c2]; simp)
    · have hpk : pk D a (nA D - (r + 1)) c = false := by
        unfold pk
        rw [decide_eq_false (show ¬ (cA D (nA D - (r + 1)) = c) from fun z => ch (congrArg hs z))]
        simp
      have e : X5_findWith_28_l12 N (f + 1) (nI a) c (fsr D (hs c) (r + 1)) (nI st) S = X5_findWith_28_l12 N (f + 1) (nI a) c (fsr D (hs c) r) (nI st) S := by rw [fsr, if_neg ch]
      rw [e, inn, hpk, if_neg (by decide)]
      exact ih n st (f + 1) t S (by omega) (by omega) (by omega) hS hC ht (by omega) hp
theorem c_find28 {N : Nat} {D : Dt} {w : Int32} (hN : 3000 ≤ N) (ok : okD D) : ∀ (r n f : Nat) (t : Ps) (S : aSt), r ≤ nA D → r < f → slC S (SL D) → chC S D → okPs t n → n + r * nA D ≤ 3690241 → psC28 S t → ∃ T, X5_find_28_l17 N f w (nI (nA D - r)) S = some T ∧ psC28 T (outr D w r t) ∧ aFr W_X5_find_28 S T := by
  have hlen : nA D ≤ 1921 := SL_len ok
  intro r
  induction r with
  | zero =>
    intro n f t S hr hf hS hC ht hn hp
    obtain ⟨f, rfl⟩ : ∃ q, f = q + 1 := ⟨f - 1, by omega⟩
    refine ⟨S, ?_, hp, aFr.rf⟩
    show X5_find_28_b17 N (X5_find_28_l17 N f) _ _ _ = _
    unfold X5_find_28_b17
    rw [hS.1, if_pos (show nI (SL D).length ≤ nI (nA D - 0) from Int32.le_refl _)]
  | succ r ih =>
    intro n f t S hr hf hS hC ht hn hp
    obtain ⟨f, rfl⟩ : ∃ q, f = q + 1 := ⟨f - 1, by omega⟩
    have ha : nA D - (r + 1) < nA D := by omega
    have e1 : nA D - (r + 1) + 1 = nA D - r := by omega
    rw [Nat.add_mul, Nat.one_mul] at hn
    rw [outr]
    generalize hab : nA D - (r + 1) = a at *
    obtain ⟨b1, b2, b3, b4⟩ := c_slA hS ok ha
    obtain ⟨-, -, kb, -⟩ := wA_ok ok ha
    show ∃ T, X5_find_28_b17 N (X5_find_28_l17 N f) _ _ _ = _ ∧ _
    unfold X5_find_28_b17 X5_find_28_b55
    simp only [aLet]
    rw [hS.1, if_neg (by exact iNLE (nA D) a (by omega)), b1, b3, nI_1, e1]
    by_cases c5 : kA D a = 5
    · rw [if_pos (by rw [c5]; rfl), inn_5 c5]
      exact ih n f t S (by omega) (by omega) hS hC ht (by omega) hp
    · rw [if_neg (by exact iNE (kA D a) 5 c5 rfl rfl kb)]
      obtain ⟨hf1, hf2⟩ := m_hs N (w - cA D a)
      obtain ⟨T1, u1, u2, u3⟩ := c_with28 (N := N) (c := w - cA D a) ok ha c5 (nA D) n 0 N t S (Nat.le_refl _) (by omega) (by omega) hS hC ht (by omega) hp
      obtain ⟨T, v1, v2, v3⟩ := ih (n + nA D) f _ T1 (by omega) (by omega) (rows_fr hS u3 (by decide)) (hC.fr u3 (by decide)) (okPs_inn ok ha (nA D) n t (Nat.le_refl _) ht) (by omega) u2
      refine ⟨T, ?_, v2, u3.tr v3⟩
      have : X5_findWith_28 N (nI a) (w - cA D a) S = some T1 := by
        unfold X5_findWith_28 X8_chainOf_14
        rw [hf1]
        simp only [Option.bind_some, aLet]
        have e20 : X6_at_20 (nI (hs (w - cA D a))) S = fsr D (hs (w - cA D a)) (nA D) := by
          unfold X6_at_20
          rw [if_neg (nI_pos (by omega)), if_neg (by exact iNLE 1021 _ hf2 rfl rfl (by omega)), nI_clamp (by omega), hC.1 _ hf2]
        rw [e20]
        exact u1
      rw [this]
      simp only [Option.bind_some]
      exact v1
theorem c_pairs28 {N : Nat} {D : Dt} {w : Int32} {S : aSt} (hN : 3000 ≤ N) (ok : okD D) (hS : slC S (SL D)) (hC : chC S D) : ∃ T, X5_find_28 N w S = some T ∧ psC28 T (pairsOf D w) := by
  have hlen : nA D ≤ 1921 := SL_len ok
  have fr : aFr W_X5_find_28 S (aL (aL (aL S 28 0 (0 : Int64)) 28 1 (0 : Int64)) 28 4 (0 : Int64)) := ((aFr.rf.L 28 0 _ (by decide)).L 28 1 _ (by decide)).L 28 4 _ (by decide)
  have h0 : okPs ps0 0 := ⟨by decide, by decide, by decide, fun _ => ⟨rfl, rfl⟩, fun z => absurd rfl z⟩
  have hb : nA D * nA D ≤ 1921 * 1921 := Nat.mul_le_mul hlen hlen
  obtain ⟨T, t1, t2, t3⟩ := c_find28 (N := N) (w := w) hN ok (nA D) 0 N ps0 _ (Nat.le_refl _) (by omega) (rows_fr hS fr (by decide)) (hC.fr fr (by decide)) h0 (by omega) ⟨by simp [gL]; rfl, by simp [gL]; rfl, by simp [gL]; rfl, fun z => absurd rfl z⟩
  refine ⟨T, ?_, t2⟩
  rw [Nat.sub_self] at t1
  exact t1
