/-! mend, strike, learn -/
theorem aA_aA (S : aSt) (k : Nat) (f g : Nat → Int32) : aA (aA S k f) k g = aA S k g := by
  unfold aA
  refine Prod.ext rfl (Prod.ext rfl ?_)
  funext a
  by_cases h : a = k <;> simp [h]
theorem aA_self (S : aSt) (k : Nat) : aA S k (S.2.2 k) = S := by
  unfold aA
  refine Prod.ext rfl (Prod.ext rfl ?_)
  funext a
  by_cases h : a = k <;> simp [h]
theorem X2_setPart_eq {S : aSt} {j w : Nat} {v : Int32} (h : 5 * j + w < 150) : X2_setPart_8 (nI j) (nI w) v S = aA S 9 (upd (S.2.2 9) (5 * j + w) v) := by
  unfold X2_setPart_8 X6_set_9
  simp only [aLet]
  have e : nI j * (5 : Int32) + nI w = nI (5 * j + w) := by
    show nI j * nI 5 + nI w = _
    rw [pk_mul, nI_add, Nat.mul_comm]
  rw [e, if_neg (nI_pos (by omega)), if_neg (fun z => by rw [show (150 : Int32) = nI 150 from rfl, nI_leI (by omega) (by omega)] at z; omega), nI_clamp (by omega)]
theorem X2_change_eq {S : aSt} {j : Nat} {y z : Int32} (h : j < 30) : X2_change_8 (nI j) y z S = aI (aA S 9 (upd (upd (S.2.2 9) (5 * j) y) (5 * j + 1) z)) 8 4 (S.1 8 4 + 1) := by
  unfold X2_change_8
  simp only [aLet]
  have e1 : X2_setPart_8 (nI j) (0 : Int32) y S = aA S 9 (upd (S.2.2 9) (5 * j) y) := X2_setPart_eq (w := 0) (by omega)
  have e2 : X2_setPart_8 (nI j) (1 : Int32) z (aA S 9 (upd (S.2.2 9) (5 * j) y)) = aA (aA S 9 (upd (S.2.2 9) (5 * j) y)) 9 (upd ((aA S 9 (upd (S.2.2 9) (5 * j) y)).2.2 9) (5 * j + 1) z) := X2_setPart_eq (w := 1) (by omega)
  rw [e1, e2, aA_aA, gA, if_pos rfl, gAi]
theorem okP_upd {P : Nat → Int32} {e j : Nat} {y z : Int32} (h : okP P e) (hy : y = 0 ∨ y = 1) (hz : isSm z) : okP (upd (upd P (5 * j) y) (5 * j + 1) z) e := by
  intro k hk
  obtain ⟨h0, h1, h2, h3, h4⟩ := h k hk
  simp only [gU]
  by_cases c : k = j
  · subst c
    simp only [if_neg (show ¬ 5 * k = 5 * k + 1 by omega), if_true, if_neg (show ¬ 5 * k + 2 = 5 * k + 1 by omega), if_neg (show ¬ 5 * k + 2 = 5 * k by omega), if_neg (show ¬ 5 * k + 3 = 5 * k + 1 by omega), if_neg (show ¬ 5 * k + 3 = 5 * k by omega), if_neg (show ¬ 5 * k + 4 = 5 * k + 1 by omega), if_neg (show ¬ 5 * k + 4 = 5 * k by omega)]
    exact ⟨hy, hz, h2, h3, h4⟩
  · rw [if_neg (by omega), if_neg (by omega), if_neg (by omega), if_neg (by omega), if_neg (by omega), if_neg (by omega), if_neg (by omega), if_neg (by omega), if_neg (by omega), if_neg (by omega)]
    exact ⟨h0, h1, h2, h3, h4⟩
theorem m_side (y : Int32) : (X10_isSide y = 1 ∧ (y = 0 ∨ y = 1) ∧ X11_in y.toInt64 0 1 = 1) ∨ (X10_isSide y = 0 ∧ X11_in y.toInt64 0 1 = 0) := by
  unfold X10_isSide
  by_cases c0 : y = 0
  · subst c0; exact Or.inl ⟨by decide, Or.inl rfl, by decide⟩
  · by_cases c1 : y = 1
    · subst c1; exact Or.inl ⟨by decide, Or.inr rfl, by decide⟩
    · rw [if_neg c0, if_neg c1]
      refine Or.inr ⟨rfl, m_in0 (a := 0) (b := 1) (by decide) (by decide) (fun h => ?_)⟩
      obtain ⟨k, hk, rfl⟩ := m_nat h.1
      have h2 := h.2
      rw [show (1 : Int32) = nI 1 from rfl, nI_leI hk (by omega)] at h2
      rcases (show k = 0 ∨ k = 1 by omega) with rfl | rfl
      · exact c0 rfl
      · exact c1 rfl
theorem m_sum (z : Int32) : (X10_isSum z = 1 ∧ isSm z ∧ X11_in z.toInt64 1 999999 = 1) ∨ (X10_isSum z = 0 ∧ X11_in z.toInt64 1 999999 = 0) := by
  unfold X10_isSum
  by_cases c : (1 : Int32) ≤ z ∧ z ≤ 999999
  · rw [if_neg (Int32.not_lt.mpr c.1), if_neg (Int32.not_lt.mpr c.2)]
    obtain ⟨k, hk, rfl⟩ := m_nat (Int32.le_trans (by decide : (0 : Int32) ≤ 1) c.1)
    refine Or.inl ⟨rfl, ⟨k, ?_, ?_, rfl⟩, m_in1 (a := 1) (b := 999999) (by decide) (by decide) c⟩
    · have := c.1; rw [show (1 : Int32) = nI 1 from rfl, nI_leI (by omega) hk] at this; exact this
    · have := c.2; rw [show (999999 : Int32) = nI 999999 from rfl, nI_leI hk (by omega)] at this; exact this
  · right
    refine ⟨?_, m_in0 (a := 1) (b := 999999) (by decide) (by decide) c⟩
    by_cases c1 : z < 1
    · rw [if_pos c1]
    · rw [if_neg c1, if_pos (Int32.not_le.mp (fun h => c ⟨Int32.not_lt.mp c1, h⟩))]
theorem m_mend {N : Nat} (hN : 5000 ≤ N) (x y z : Int32) {S : aSt} (h : rE S) : ∃ r S1 S2, X10_mend_0 N x y z S = some (r, S1) ∧ X11_mend_42 N x y z S1 = some (r, S2) ∧ rE S2 ∧ (S1 = S ∨ S1.1 8 4 = S.1 8 4 + 1) := by
  have h' := h
  obtain ⟨e, he, h1, h2, h3, h4⟩ := h
  unfold X10_mend_0
  simp only [aLet]
  have same : ∀ q : Int32, X11_mend_42 N x y z S = some (q, S) → ∃ r S1 S2, some (q, S) = some (r, S1) ∧ X11_mend_42 N x y z S1 = some (r, S2) ∧ rE S2 ∧ (S1 = S ∨ S1.1 8 4 = S.1 8 4 + 1) := fun q hq => ⟨q, S, S, rfl, hq, h', Or.inl rfl⟩
  rcases m_isEntry (N := N) (x := x) h2 he with ⟨j, hj, rfl, hi, -⟩ | ⟨hn, hi⟩
  · rw [(m_holds h1 he).1 j hj rfl, if_neg n10]
    rcases m_side y with ⟨s1, s2, s3⟩ | ⟨s1, s3⟩
    · rw [s1, if_neg n10]
      rcases m_sum z with ⟨u1, u2, u3⟩ | ⟨u1, u3⟩
      · rw [u1, if_neg n10, X2_change_eq (by omega)]
        have hP := okP_upd (j := j) h4 s2 u2
        generalize hS1 : aI (aA S 9 (upd (upd (S.2.2 9) (5 * j) y) (5 * j + 1) z)) 8 4 (S.1 8 4 + 1) = S1
        have q1 : S1.1 8 0 = nI e := by rw [← hS1, gI, if_neg (by decide), gAi, h1]
        have q2 : S1.1 42 5 = nI e := by rw [← hS1, gI, if_neg (by decide), gAi, h2]
        have q3 : S1.2.2 9 = upd (upd (S.2.2 9) (5 * j) y) (5 * j + 1) z := by rw [← hS1, gIa, gA, if_pos rfl]
        have q4 : S1.2.2 45 = S.2.2 45 := by rw [← hS1, gIa, gA, if_neg (by decide)]
        have q5 : S1.1 8 4 = S.1 8 4 + 1 := by rw [← hS1, gI, if_pos ⟨rfl, rfl⟩]
        rw [X2_outOf_eq _ q1 he (by omega)]
        simp only [Option.bind_some]
        have hi1 : X11_isEntry_42 N (nI j) S1 = some 1 := by
          rcases m_isEntry (N := N) (x := nI j) q2 he with ⟨_, _, _, hi1, -⟩ | ⟨hn, -⟩
          · exact hi1
          · exact absurd rfl (hn j hj)
        generalize hS2 : aA (aA S1 45 (upd (S1.2.2 45) (5 * j) y)) 45 (upd (upd (S1.2.2 45) (5 * j) y) (5 * j + 1) z) = S2
        have w1 : S2.1 42 5 = nI e := by rw [← hS2, gAi, gAi, q2]
        have w2 : S2.2.2 45 = upd (upd (S.2.2 45) (5 * j) y) (5 * j + 1) z := by rw [← hS2, gA, if_pos rfl, q4]
        have w3 : S2.1 8 0 = nI e := by rw [← hS2, gAi, gAi, q1]
        have w4 : S2.2.2 9 = S1.2.2 9 := by rw [← hS2, gA, if_neg (by decide), gA, if_neg (by decide)]
        have hc : ∀ i, i < 5 * e → S2.2.2 9 i = S2.2.2 45 i := by
          intro i hi
          rw [w4, w2, q3]
          simp only [gU]
          rw [h3 i hi]
        refine ⟨_, S1, S2, rfl, ?_, ⟨e, he, w3, w1, hc, by rw [w4, q3]; exact hP⟩, Or.inr q5⟩
        unfold X11_mend_42
        simp only [aLet]
        rw [hi1]
        simp only [Option.bind_some]
        rw [if_neg n10, s3, if_neg n10, u3, if_neg n10, m_50, if_pos (m_ix (show 5 * j < 150 by omega) (by decide)), nI_1, if_pos (m_ix (show 5 * j + 1 < 150 by omega) (by decide)), nI_clamp (by omega), nI_clamp (by omega), hS2, X11_outOf_eq _ w1 he (by omega)]
        simp only [Option.bind_some]
        rw [← outS_cong hc, w4]
      · rw [u1, if_pos rfl]
        refine same _ ?_
        unfold X11_mend_42
        simp only [aLet]
        rw [hi]
        simp only [Option.bind_some]
        rw [if_neg n10, s3, if_neg n10, u3, if_pos rfl]
    · rw [s1, if_pos rfl]
      refine same _ ?_
      unfold X11_mend_42
      simp only [aLet]
      rw [hi]
      simp only [Option.bind_some]
      rw [if_neg n10, s3, if_pos rfl]
  · rw [(m_holds h1 he).2 hn, if_pos rfl]
    refine same _ ?_
    unfold X11_mend_42
    rw [hi]
    rfl
/-- the entries behind one come one place ahead -/
def sh (P : Nat → Int32) (j m : Nat) : Nat → Int32 := fun i => if 5 * j ≤ i ∧ i < m then P (i + 5) else P i
theorem sh_0 (P : Nat → Int32) (j : Nat) : sh P j (5 * j) = P := by
  funext i
  unfold sh
  rw [if_neg (by omega)]
theorem sh_step {P : Nat → Int32} {j m : Nat} (h : 5 * j ≤ m) : upd (sh P j m) m (sh P j m (m + 5)) = sh P j (m + 1) := by
  funext i
  unfold sh upd
  by_cases c : i = m
  · subst c
    rw [if_pos rfl, if_neg (by omega), if_pos (by omega)]
  · rw [if_neg c]
    show (if 5 * j ≤ i ∧ i < m then P (i + 5) else P i) = _
    by_cases c2 : 5 * j ≤ i ∧ i < m
    · rw [if_pos c2, if_pos (by omega)]
    · rw [if_neg c2, if_neg (by omega)]
theorem X2_remove_l14_eq {N j b : Nat} {S : aSt} {rec4 : Int32 → aSt → Option aSt} (hj : j < b) (hb : b < 30) : ∀ (m w n : Nat), w + m = 5 → m < n → X2_remove_8_l14 N rec4 n (nI b) (nI w) (aA S 9 (sh (S.2.2 9) j (5 * (b - 1) + w))) = rec4 (nI (b + 1)) (aA S 9 (sh (S.2.2 9) j (5 * b))) := by
  intro m
  induction m with
  | zero =>
    intro w n hw hn
    obtain ⟨n, rfl⟩ : ∃ q, n = q + 1 := ⟨n - 1, by omega⟩
    show X2_remove_8_b14 N rec4 (X2_remove_8_l14 N rec4 n) _ _ _ = _
    unfold X2_remove_8_b14 X2_remove_8_b39
    have : w = 5 := by omega
    subst this
    rw [if_pos (show (5 : Int32) ≤ nI 5 from by decide), nI_1, show 5 * (b - 1) + 5 = 5 * b by omega]
  | succ m ih =>
    intro w n hw hn
    obtain ⟨n, rfl⟩ : ∃ q, n = q + 1 := ⟨n - 1, by omega⟩
    show X2_remove_8_b14 N rec4 (X2_remove_8_l14 N rec4 n) _ _ _ = _
    have hi := ih (w + 1) n (by omega) (by omega)
    unfold X2_remove_8_b14
    simp only [aLet]
    rw [if_neg (by rw [show (5 : Int32) = nI 5 from rfl, nI_leI (by omega) (by omega)]; omega)]
    have e1 : nI b - 1 = nI (b - 1) := pk_sub (b := 1) (by omega)
    rw [X2_told_eq (show 5 * b + w < 150 by omega), e1, X2_setPart_eq (show 5 * (b - 1) + w < 150 by omega), gA, if_pos rfl, aA_aA, show 5 * b + w = 5 * (b - 1) + w + 5 by omega, sh_step (by omega), nI_1]
    exact hi
theorem X2_remove_l4_eq {N j e : Nat} {S : aSt} (hN : 5000 ≤ N) (hS : S.1 8 0 = nI e) (he : e ≤ 30) (hj : j < e) : ∀ (m b n : Nat), b + m = e → m < n → j < b → X2_remove_8_l4 N n (nI b) (aA S 9 (sh (S.2.2 9) j (5 * (b - 1)))) = some (aI (aI (aA S 9 (sh (S.2.2 9) j (5 * (e - 1)))) 8 0 (nI (e - 1))) 8 4 (S.1 8 4 + 1)) := by
  intro m
  induction m with
  | zero =>
    intro b n hb hn hjb
    obtain ⟨n, rfl⟩ : ∃ q, n = q + 1 := ⟨n - 1, by omega⟩
    show X2_remove_8_b4 N (X2_remove_8_l4 N n) _ _ = _
    unfold X2_remove_8_b4 X2_remove_8_b45
    have : b = e := by omega
    subst this
    rw [gAi, hS, if_pos (Int32.le_refl _), gAi, show nI b - 1 = nI (b - 1) from pk_sub (b := 1) (by omega)]
  | succ m ih =>
    intro b n hb hn hjb
    obtain ⟨n, rfl⟩ : ∃ q, n = q + 1 := ⟨n - 1, by omega⟩
    show X2_remove_8_b4 N (X2_remove_8_l4 N n) _ _ = _
    have hi := ih (b + 1) n (by omega) (by omega) (by omega)
    unfold X2_remove_8_b4
    rw [gAi, hS, if_neg (by rw [nI_leI (by omega) (by omega)]; omega)]
    rw [show (0 : Int32) = nI 0 from rfl, show 5 * (b - 1) = 5 * (b - 1) + 0 from rfl, X2_remove_l14_eq hjb (by omega) 5 0 N rfl (by omega)]
    exact hi
theorem X11_strike_l_eq {N j e : Nat} {S : aSt} (hS : S.1 42 5 = nI e) (he : e ≤ 30) (hj : j < e) : ∀ (m b n : Nat), b + m = 5 * (e - 1) → m < n → 5 * j ≤ b → X11_strike_42_l15 N n (nI b) (aA S 45 (sh (S.2.2 45) j b)) = some (nI (e - 1), aI (aA S 45 (sh (S.2.2 45) j (5 * (e - 1)))) 42 5 (nI (e - 1))) := by
  have e5 : (5 : Int32) * nI e - 5 = nI (5 * (e - 1)) := by
    rw [m_50]
    have := pk_sub (a := 5 * e) (b := 5) (by omega)
    rw [show 5 * (e - 1) = 5 * e - 5 by omega]
    exact this
  have e1 : nI e - 1 = nI (e - 1) := pk_sub (b := 1) (by omega)
  intro m
  induction m with
  | zero =>
    intro b n hb hn hjb
    obtain ⟨n, rfl⟩ : ∃ q, n = q + 1 := ⟨n - 1, by omega⟩
    show X11_strike_42_b15 N (X11_strike_42_l15 N n) _ _ = _
    unfold X11_strike_42_b15 X11_strike_42_b47
    have : b = 5 * (e - 1) := by omega
    subst this
    rw [gAi, hS, e5, if_pos (Int32.le_refl _), e1]
  | succ m ih =>
    intro b n hb hn hjb
    obtain ⟨n, rfl⟩ : ∃ q, n = q + 1 := ⟨n - 1, by omega⟩
    show X11_strike_42_b15 N (X11_strike_42_l15 N n) _ _ = _
    have hi := ih (b + 1) n (by omega) (by omega) (by omega)
    unfold X11_strike_42_b15
    have e55 : nI b + (5 : Int32) = nI (b + 5) := nI_add b 5
    rw [gAi, hS, e5, if_neg (by rw [nI_leI (by omega) (by omega)]; omega), e55, if_pos (m_ix (show b + 5 < 150 by omega) (by decide)), if_pos (m_ix (show b < 150 by omega) (by decide)), nI_clamp (by omega), nI_clamp (by omega), gA, if_pos rfl, aA_aA, sh_step hjb, nI_1]
    exact hi
theorem okP_sh {P : Nat → Int32} {e j : Nat} (h : okP P e) : okP (sh P j (5 * (e - 1))) (e - 1) := by
  intro k hk
  unfold sh
  by_cases c : j ≤ k
  · obtain ⟨h0, h1, h2, h3, h4⟩ := h (k + 1) (by omega)
    rw [if_pos (by omega), if_pos (by omega), if_pos (by omega), if_pos (by omega), if_pos (by omega)]
    exact ⟨h0, h1, h2, h3, h4⟩
  · obtain ⟨h0, h1, h2, h3, h4⟩ := h k (by omega)
    rw [if_neg (by omega), if_neg (by omega), if_neg (by omega), if_neg (by omega), if_neg (by omega)]
    exact ⟨h0, h1, h2, h3, h4⟩
theorem m_strike {N : Nat} (hN : 5000 ≤ N) (x : Int32) {S : aSt} (h : rE S) : ∃ r S1 S2, X10_strike_0 N x S = some (r, S1) ∧ X11_strike_42 N x S1 = some (r, S2) ∧ rE S2 ∧ (S1 = S ∨ S1.1 8 4 = S.1 8 4 + 1) := by
  have h' := h
  obtain ⟨e, he, h1, h2, h3, h4⟩ := h
  unfold X10_strike_0
  simp only [aLet]
  rcases m_isEntry (N := N) (x := x) h2 he with ⟨j, hj, rfl, hi, -⟩ | ⟨hn, hi⟩
  · rw [(m_holds h1 he).1 j hj rfl, if_neg n10]
    have hr : X2_remove_8 N (nI j) S = some (aI (aI (aA S 9 (sh (S.2.2 9) j (5 * (e - 1)))) 8 0 (nI (e - 1))) 8 4 (S.1 8 4 + 1)) := by
      have := X2_remove_l4_eq hN h1 he hj (e - (j + 1)) (j + 1) N (by omega) (by omega) (by omega)
      rw [show j + 1 - 1 = j from rfl, sh_0, aA_self] at this
      unfold X2_remove_8
      rw [nI_1]
      exact this
    rw [hr]
    simp only [Option.bind_some]
    generalize hS1 : aI (aI (aA S 9 (sh (S.2.2 9) j (5 * (e - 1)))) 8 0 (nI (e - 1))) 8 4 (S.1 8 4 + 1) = S1
    have q1 : S1.1 8 0 = nI (e - 1) := by rw [← hS1, gI, if_neg (by decide), gI, if_pos ⟨rfl, rfl⟩]
    have q2 : S1.1 42 5 = nI e := by rw [← hS1, gI, if_neg (by decide), gI, if_neg (by decide), gAi, h2]
    have q3 : S1.2.2 9 = sh (S.2.2 9) j (5 * (e - 1)) := by rw [← hS1, gIa, gIa, gA, if_pos rfl]
    have q4 : S1.2.2 45 = S.2.2 45 := by rw [← hS1, gIa, gIa, gA, if_neg (by decide)]
    have q5 : S1.1 8 4 = S.1 8 4 + 1 := by rw [← hS1, gI, if_pos ⟨rfl, rfl⟩]
    have hi1 : X11_isEntry_42 N (nI j) S1 = some 1 := by
      rcases m_isEntry (N := N) (x := nI j) q2 he with ⟨_, _, _, hi1, -⟩ | ⟨hn, -⟩
      · exact hi1
      · exact absurd rfl (hn j hj)
    have hm := X11_strike_l_eq (N := N) q2 he hj (5 * (e - 1) - 5 * j) (5 * j) N (by omega) (by omega) (Nat.le_refl _)
    rw [sh_0, aA_self] at hm
    generalize hS2 : aI (aA S1 45 (sh (S1.2.2 45) j (5 * (e - 1)))) 42 5 (nI (e - 1)) = S2 at hm
    have w1 : S2.1 42 5 = nI (e - 1) := by rw [← hS2, gI, if_pos ⟨rfl, rfl⟩]
    have w2 : S2.2.2 45 = sh (S.2.2 45) j (5 * (e - 1)) := by rw [← hS2, gIa, gA, if_pos rfl, q4]
    have w3 : S2.1 8 0 = nI (e - 1) := by rw [← hS2, gI, if_neg (by decide), gAi, q1]
    have w4 : S2.2.2 9 = S1.2.2 9 := by rw [← hS2, gIa, gA, if_neg (by decide)]
    refine ⟨nI (e - 1), S1, S2, by rw [q1], ?_, ⟨e - 1, by omega, w3, w1, fun i hi => ?_, by rw [w4, q3]; exact okP_sh h4⟩, Or.inr q5⟩
    · unfold X11_strike_42
      rw [hi1]
      simp only [Option.bind_some]
      rw [if_neg n10, m_50]
      exact hm
    · rw [w4, q3, w2]
      unfold sh
      by_cases c : 5 * j ≤ i ∧ i < 5 * (e - 1)
      · rw [if_pos c, if_pos c, h3 _ (by omega)]
      · rw [if_neg c, if_neg c, h3 _ (by omega)]
  · rw [(m_holds h1 he).2 hn, if_pos rfl]
    refine ⟨_, S, S, rfl, ?_, h', Or.inl rfl⟩
    unfold X11_strike_42
    rw [hi]
    rfl
