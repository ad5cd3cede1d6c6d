/-! the law: one call -/
theorem lg_rr (x : Int64) : lg_cmp x x = 0 := (lg_cmp_eq x x).mpr rfl
theorem w_0 {N L p c : Nat} {xs : Nat → Int32} {rec18 : Int32 → aSt → Option Int32} {S : aSt} (hN : 6000 ≤ N) (hL : L ≤ 2048) (hp : p + 3 < L) (hc : c < 2 ^ 29) (h : GR S c) (hop : xs p &&& (31 : Int32) = nI 0) : ∃ S' c', L_law_1000_c0_b18 N L xs rec18 (nI p) S = rec18 (nI (p + 4)) S' ∧ GR S' c' ∧ c ≤ c' ∧ c' ≤ c + 11 := by
  have hlt : ¬ (Int32.ofNat L) - (4 : Int32) < nI p := by
    have e : (Int32.ofNat L) - (4 : Int32) = nI (L - 4) := pk_sub (a := L) (b := 4) (by omega)
    rw [e]
    exact iNLT (L - 4) p (by omega)
  have g0 : aIx (nI p) L = true := m_ix (by omega) (by omega)
  have g1 : aIx (nI (p + 1)) L = true := m_ix (by omega) (by omega)
  have g2 : aIx (nI (p + 2)) L = true := m_ix (by omega) (by omega)
  have g3 : aIx (nI (p + 3)) L = true := m_ix (by omega) (by omega)
  have k1 : (nI (p + 1)).toNatClampNeg = p + 1 := nI_clamp (by omega)
  have k2 : (nI (p + 2)).toNatClampNeg = p + 2 := nI_clamp (by omega)
  have k3 : (nI (p + 3)).toNatClampNeg = p + 3 := nI_clamp (by omega)
  obtain ⟨r, S1, S2, a1, a2, a3⟩ := g_write (N := N) ((((xs (p + 1)).toInt64) <<< ((32 : Int32).toInt64 &&& 63)) ||| (((xs (p + 2)).toInt64) &&& (4294967295 : Int64))) (xs (p + 3)) (by omega) h
  refine ⟨S2, c, ?_, a3, Nat.le_refl _, by omega⟩
  unfold L_law_1000_c0_b18
  rw [if_neg hlt, if_pos g0, nI_clamp (show p < 2 ^ 31 by omega), hop, if_neg (by decide), if_pos (show nI 0 = (0 : Int32) from rfl)]
  simp only [nI_1, m_a2, m_a3, m_a4, g1, g2, g3, k1, k2, k3, ↓reduceIte, Option.bind_some, L_law_1000_c0_b940, aLet, a1, a2, lg_rr]
theorem w_1 {N L p c : Nat} {xs : Nat → Int32} {rec18 : Int32 → aSt → Option Int32} {S : aSt} (hN : 6000 ≤ N) (hL : L ≤ 2048) (hp : p + 3 < L) (hc : c < 2 ^ 29) (h : GR S c) (hop : xs p &&& (31 : Int32) = nI 1) : ∃ S' c', L_law_1000_c0_b18 N L xs rec18 (nI p) S = rec18 (nI (p + 4)) S' ∧ GR S' c' ∧ c ≤ c' ∧ c' ≤ c + 11 := by
  have hlt : ¬ (Int32.ofNat L) - (4 : Int32) < nI p := by
    have e : (Int32.ofNat L) - (4 : Int32) = nI (L - 4) := pk_sub (a := L) (b := 4) (by omega)
    rw [e]
    exact iNLT (L - 4) p (by omega)
  have g0 : aIx (nI p) L = true := m_ix (by omega) (by omega)
  have g1 : aIx (nI (p + 1)) L = true := m_ix (by omega) (by omega)
  have g2 : aIx (nI (p + 2)) L = true := m_ix (by omega) (by omega)
  have g3 : aIx (nI (p + 3)) L = true := m_ix (by omega) (by omega)
  have k1 : (nI (p + 1)).toNatClampNeg = p + 1 := nI_clamp (by omega)
  have k2 : (nI (p + 2)).toNatClampNeg = p + 2 := nI_clamp (by omega)
  have k3 : (nI (p + 3)).toNatClampNeg = p + 3 := nI_clamp (by omega)
  obtain ⟨r, S1, S2, a1, a2, a3⟩ := g_erase h
  refine ⟨S2, c, ?_, a3, Nat.le_refl _, by omega⟩
  unfold L_law_1000_c0_b18
  rw [if_neg hlt, if_pos g0, nI_clamp (show p < 2 ^ 31 by omega), hop, if_neg (by decide), if_neg (by decide), if_pos (show nI 1 = (1 : Int32) from rfl)]
  simp only [nI_1, m_a2, m_a3, m_a4, g1, g2, g3, k1, k2, k3, ↓reduceIte, Option.bind_some, L_law_1000_c0_b940, aLet, a1, a2, lg_rr]
theorem w_2 {N L p c : Nat} {xs : Nat → Int32} {rec18 : Int32 → aSt → Option Int32} {S : aSt} (hN : 6000 ≤ N) (hL : L ≤ 2048) (hp : p + 3 < L) (hc : c < 2 ^ 29) (h : GR S c) (hop : xs p &&& (31 : Int32) = nI 2) : ∃ S' c', L_law_1000_c0_b18 N L xs rec18 (nI p) S = rec18 (nI (p + 4)) S' ∧ GR S' c' ∧ c ≤ c' ∧ c' ≤ c + 11 := by
  have hlt : ¬ (Int32.ofNat L) - (4 : Int32) < nI p := by
    have e : (Int32.ofNat L) - (4 : Int32) = nI (L - 4) := pk_sub (a := L) (b := 4) (by omega)
    rw [e]
    exact iNLT (L - 4) p (by omega)
  have g0 : aIx (nI p) L = true := m_ix (by omega) (by omega)
  have g1 : aIx (nI (p + 1)) L = true := m_ix (by omega) (by omega)
  have g2 : aIx (nI (p + 2)) L = true := m_ix (by omega) (by omega)
  have g3 : aIx (nI (p + 3)) L = true := m_ix (by omega) (by omega)
  have k1 : (nI (p + 1)).toNatClampNeg = p + 1 := nI_clamp (by omega)
  have k2 : (nI (p + 2)).toNatClampNeg = p + 2 := nI_clamp (by omega)
  have k3 : (nI (p + 3)).toNatClampNeg = p + 3 := nI_clamp (by omega)
  obtain ⟨r, S1, S2, a1, a2, a3⟩ := m_fault (N := N) (by omega) h
  refine ⟨S2, c, ?_, a3, Nat.le_refl _, by omega⟩
  unfold L_law_1000_c0_b18
  rw [if_neg hlt, if_pos g0, nI_clamp (show p < 2 ^ 31 by omega), hop, if_neg (by decide), if_neg (by decide), if_neg (by decide), if_pos (show nI 2 = (2 : Int32) from rfl)]
  simp only [nI_1, m_a2, m_a3, m_a4, g1, g2, g3, k1, k2, k3, ↓reduceIte, Option.bind_some, L_law_1000_c0_b940, aLet, a1, a2, lg_rr]
theorem w_3 {N L p c : Nat} {xs : Nat → Int32} {rec18 : Int32 → aSt → Option Int32} {S : aSt} (hN : 6000 ≤ N) (hL : L ≤ 2048) (hp : p + 3 < L) (hc : c < 2 ^ 29) (h : GR S c) (hop : xs p &&& (31 : Int32) = nI 3) : ∃ S' c', L_law_1000_c0_b18 N L xs rec18 (nI p) S = rec18 (nI (p + 4)) S' ∧ GR S' c' ∧ c ≤ c' ∧ c' ≤ c + 11 := by
  have hlt : ¬ (Int32.ofNat L) - (4 : Int32) < nI p := by
    have e : (Int32.ofNat L) - (4 : Int32) = nI (L - 4) := pk_sub (a := L) (b := 4) (by omega)
    rw [e]
    exact iNLT (L - 4) p (by omega)
  have g0 : aIx (nI p) L = true := m_ix (by omega) (by omega)
  have g1 : aIx (nI (p + 1)) L = true := m_ix (by omega) (by omega)
  have g2 : aIx (nI (p + 2)) L = true := m_ix (by omega) (by omega)
  have g3 : aIx (nI (p + 3)) L = true := m_ix (by omega) (by omega)
  have k1 : (nI (p + 1)).toNatClampNeg = p + 1 := nI_clamp (by omega)
  have k2 : (nI (p + 2)).toNatClampNeg = p + 2 := nI_clamp (by omega)
  have k3 : (nI (p + 3)).toNatClampNeg = p + 3 := nI_clamp (by omega)
  obtain ⟨r, S1, S2, c', a1, a2, a3, a4, a5⟩ := m_book (N := N) (by omega) (by omega) h
  refine ⟨S2, c', ?_, a3, a4, a5⟩
  unfold L_law_1000_c0_b18
  rw [if_neg hlt, if_pos g0, nI_clamp (show p < 2 ^ 31 by omega), hop, if_neg (by decide), if_neg (by decide), if_neg (by decide), if_neg (by decide), if_pos (show nI 3 = (3 : Int32) from rfl)]
  simp only [nI_1, m_a2, m_a3, m_a4, g1, g2, g3, k1, k2, k3, ↓reduceIte, Option.bind_some, L_law_1000_c0_b940, aLet, a1, a2, lg_rr]
theorem w_4 {N L p c : Nat} {xs : Nat → Int32} {rec18 : Int32 → aSt → Option Int32} {S : aSt} (hN : 6000 ≤ N) (hL : L ≤ 2048) (hp : p + 3 < L) (hc : c < 2 ^ 29) (h : GR S c) (hop : xs p &&& (31 : Int32) = nI 4) : ∃ S' c', L_law_1000_c0_b18 N L xs rec18 (nI p) S = rec18 (nI (p + 4)) S' ∧ GR S' c' ∧ c ≤ c' ∧ c' ≤ c + 11 := by
  have hlt : ¬ (Int32.ofNat L) - (4 : Int32) < nI p := by
    have e : (Int32.ofNat L) - (4 : Int32) = nI (L - 4) := pk_sub (a := L) (b := 4) (by omega)
    rw [e]
    exact iNLT (L - 4) p (by omega)
  have g0 : aIx (nI p) L = true := m_ix (by omega) (by omega)
  have g1 : aIx (nI (p + 1)) L = true := m_ix (by omega) (by omega)
  have g2 : aIx (nI (p + 2)) L = true := m_ix (by omega) (by omega)
  have g3 : aIx (nI (p + 3)) L = true := m_ix (by omega) (by omega)
  have k1 : (nI (p + 1)).toNatClampNeg = p + 1 := nI_clamp (by omega)
  have k2 : (nI (p + 2)).toNatClampNeg = p + 2 := nI_clamp (by omega)
  have k3 : (nI (p + 3)).toNatClampNeg = p + 3 := nI_clamp (by omega)
  have a1 := m_entry N (xs (p + 1)) (xs (p + 2)) h.2.1
  refine ⟨S, c, ?_, h, Nat.le_refl _, by omega⟩
  unfold L_law_1000_c0_b18
  rw [if_neg hlt, if_pos g0, nI_clamp (show p < 2 ^ 31 by omega), hop, if_neg (by decide), if_neg (by decide), if_neg (by decide), if_neg (by decide), if_neg (by decide), if_pos (show nI 4 = (4 : Int32) from rfl)]
  simp only [nI_1, m_a2, m_a3, m_a4, g1, g2, g3, k1, k2, k3, ↓reduceIte, Option.bind_some, L_law_1000_c0_b940, aLet, a1, lg_rr]
theorem w_5 {N L p c : Nat} {xs : Nat → Int32} {rec18 : Int32 → aSt → Option Int32} {S : aSt} (hN : 6000 ≤ N) (hL : L ≤ 2048) (hp : p + 3 < L) (hc : c < 2 ^ 29) (h : GR S c) (hop : xs p &&& (31 : Int32) = nI 5) : ∃ S' c', L_law_1000_c0_b18 N L xs rec18 (nI p) S = rec18 (nI (p + 4)) S' ∧ GR S' c' ∧ c ≤ c' ∧ c' ≤ c + 11 := by
  have hlt : ¬ (Int32.ofNat L) - (4 : Int32) < nI p := by
    have e : (Int32.ofNat L) - (4 : Int32) = nI (L - 4) := pk_sub (a := L) (b := 4) (by omega)
    rw [e]
    exact iNLT (L - 4) p (by omega)
  have g0 : aIx (nI p) L = true := m_ix (by omega) (by omega)
  have g1 : aIx (nI (p + 1)) L = true := m_ix (by omega) (by omega)
  have g2 : aIx (nI (p + 2)) L = true := m_ix (by omega) (by omega)
  have g3 : aIx (nI (p + 3)) L = true := m_ix (by omega) (by omega)
  have k1 : (nI (p + 1)).toNatClampNeg = p + 1 := nI_clamp (by omega)
  have k2 : (nI (p + 2)).toNatClampNeg = p + 2 := nI_clamp (by omega)
  have k3 : (nI (p + 3)).toNatClampNeg = p + 3 := nI_clamp (by omega)
  obtain ⟨r, a1, a2⟩ := m_out (N := N) (by omega) (xs (p + 1)) h.2.1
  refine ⟨S, c, ?_, h, Nat.le_refl _, by omega⟩
  unfold L_law_1000_c0_b18
  rw [if_neg hlt, if_pos g0, nI_clamp (show p < 2 ^ 31 by omega), hop, if_neg (by decide), if_neg (by decide), if_neg (by decide), if_neg (by decide), if_neg (by decide), if_neg (by decide), if_pos (show nI 5 = (5 : Int32) from rfl)]
  simp only [nI_1, m_a2, m_a3, m_a4, g1, g2, g3, k1, k2, k3, ↓reduceIte, Option.bind_some, L_law_1000_c0_b940, aLet, a1, a2, lg_rr]
theorem w_6 {N L p c : Nat} {xs : Nat → Int32} {rec18 : Int32 → aSt → Option Int32} {S : aSt} (hN : 6000 ≤ N) (hL : L ≤ 2048) (hp : p + 3 < L) (hc : c < 2 ^ 29) (h : GR S c) (hop : xs p &&& (31 : Int32) = nI 6) : ∃ S' c', L_law_1000_c0_b18 N L xs rec18 (nI p) S = rec18 (nI (p + 4)) S' ∧ GR S' c' ∧ c ≤ c' ∧ c' ≤ c + 11 := by
  have hlt : ¬ (Int32.ofNat L) - (4 : Int32) < nI p := by
    have e : (Int32.ofNat L) - (4 : Int32) = nI (L - 4) := pk_sub (a := L) (b := 4) (by omega)
    rw [e]
    exact iNLT (L - 4) p (by omega)
  have g0 : aIx (nI p) L = true := m_ix (by omega) (by omega)
  have g1 : aIx (nI (p + 1)) L = true := m_ix (by omega) (by omega)
  have g2 : aIx (nI (p + 2)) L = true := m_ix (by omega) (by omega)
  have g3 : aIx (nI (p + 3)) L = true := m_ix (by omega) (by omega)
  have k1 : (nI (p + 1)).toNatClampNeg = p + 1 := nI_clamp (by omega)
  have k2 : (nI (p + 2)).toNatClampNeg = p + 2 := nI_clamp (by omega)
  have k3 : (nI (p + 3)).toNatClampNeg = p + 3 := nI_clamp (by omega)
  obtain ⟨r, a1, a2⟩ := m_offs (N := N) (by omega) (xs (p + 1)) h.2.1 h.2.2.2.1
  refine ⟨S, c, ?_, h, Nat.le_refl _, by omega⟩
  unfold L_law_1000_c0_b18
  rw [if_neg hlt, if_pos g0, nI_clamp (show p < 2 ^ 31 by omega), hop, if_neg (by decide), if_neg (by decide), if_neg (by decide), if_neg (by decide), if_neg (by decide), if_neg (by decide), if_neg (by decide), if_pos (show nI 6 = (6 : Int32) from rfl)]
  simp only [nI_1, m_a2, m_a3, m_a4, g1, g2, g3, k1, k2, k3, ↓reduceIte, Option.bind_some, L_law_1000_c0_b940, aLet, a1, a2, lg_rr]
theorem w_7 {N L p c : Nat} {xs : Nat → Int32} {rec18 : Int32 → aSt → Option Int32} {S : aSt} (hN : 6000 ≤ N) (hL : L ≤ 2048) (hp : p + 3 < L) (hc : c < 2 ^ 29) (h : GR S c) (hop : xs p &&& (31 : Int32) = nI 7) : ∃ S' c', L_law_1000_c0_b18 N L xs rec18 (nI p) S = rec18 (nI (p + 4)) S' ∧ GR S' c' ∧ c ≤ c' ∧ c' ≤ c + 11 := by
  have hlt : ¬ (Int32.ofNat L) - (4 : Int32) < nI p := by
    have e : (Int32.ofNat L) - (4 : Int32) = nI (L - 4) := pk_sub (a := L) (b := 4) (by omega)
    rw [e]
    exact iNLT (L - 4) p (by omega)
  have g0 : aIx (nI p) L = true := m_ix (by omega) (by omega)
  have g1 : aIx (nI (p + 1)) L = true := m_ix (by omega) (by omega)
  have g2 : aIx (nI (p + 2)) L = true := m_ix (by omega) (by omega)
  have g3 : aIx (nI (p + 3)) L = true := m_ix (by omega) (by omega)
  have k1 : (nI (p + 1)).toNatClampNeg = p + 1 := nI_clamp (by omega)
  have k2 : (nI (p + 2)).toNatClampNeg = p + 2 := nI_clamp (by omega)
  have k3 : (nI (p + 3)).toNatClampNeg = p + 3 := nI_clamp (by omega)
  have a1 := m_odds N (xs (p + 1)) (xs (p + 2)) h.2.2.1
  refine ⟨S, c, ?_, h, Nat.le_refl _, by omega⟩
  unfold L_law_1000_c0_b18
  rw [if_neg hlt, if_pos g0, nI_clamp (show p < 2 ^ 31 by omega), hop, if_neg (by decide), if_neg (by decide), if_neg (by decide), if_neg (by decide), if_neg (by decide), if_neg (by decide), if_neg (by decide), if_neg (by decide), if_pos (show nI 7 = (7 : Int32) from rfl)]
  simp only [nI_1, m_a2, m_a3, m_a4, g1, g2, g3, k1, k2, k3, ↓reduceIte, Option.bind_some, L_law_1000_c0_b940, aLet, a1, lg_rr]
theorem w_8 {N L p c : Nat} {xs : Nat → Int32} {rec18 : Int32 → aSt → Option Int32} {S : aSt} (hN : 6000 ≤ N) (hL : L ≤ 2048) (hp : p + 3 < L) (hc : c < 2 ^ 29) (h : GR S c) (hop : xs p &&& (31 : Int32) = nI 8) : ∃ S' c', L_law_1000_c0_b18 N L xs rec18 (nI p) S = rec18 (nI (p + 4)) S' ∧ GR S' c' ∧ c ≤ c' ∧ c' ≤ c + 11 := by
  have hlt : ¬ (Int32.ofNat L) - (4 : Int32) < nI p := by
    have e : (Int32.ofNat L) - (4 : Int32) = nI (L - 4) := pk_sub (a := L) (b := 4) (by omega)
    rw [e]
    exact iNLT (L - 4) p (by omega)
  have g0 : aIx (nI p) L = true := m_ix (by omega) (by omega)
  have g1 : aIx (nI (p + 1)) L = true := m_ix (by omega) (by omega)
  have g2 : aIx (nI (p + 2)) L = true := m_ix (by omega) (by omega)
  have g3 : aIx (nI (p + 3)) L = true := m_ix (by omega) (by omega)
  have k1 : (nI (p + 1)).toNatClampNeg = p + 1 := nI_clamp (by omega)
  have k2 : (nI (p + 2)).toNatClampNeg = p + 2 := nI_clamp (by omega)
  have k3 : (nI (p + 3)).toNatClampNeg = p + 3 := nI_clamp (by omega)
  obtain ⟨r, S1, S2, c', a1, a2, a3, a4, a5⟩ := g_learn (N := N) (xs (p + 1)) (xs (p + 2)) (by omega) h
  refine ⟨S2, c', ?_, a3, a4, a5⟩
  unfold L_law_1000_c0_b18
  rw [if_neg hlt, if_pos g0, nI_clamp (show p < 2 ^ 31 by omega), hop, if_neg (by decide), if_neg (by decide), if_neg (by decide), if_neg (by decide), if_neg (by decide), if_neg (by decide), if_neg (by decide), if_neg (by decide), if_neg (by decide), if_pos (show nI 8 = (8 : Int32) from rfl)]
  simp only [nI_1, m_a2, m_a3, m_a4, g1, g2, g3, k1, k2, k3, ↓reduceIte, Option.bind_some, L_law_1000_c0_b940, aLet, a1, a2, lg_rr]
theorem w_9 {N L p c : Nat} {xs : Nat → Int32} {rec18 : Int32 → aSt → Option Int32} {S : aSt} (hN : 6000 ≤ N) (hL : L ≤ 2048) (hp : p + 3 < L) (hc : c < 2 ^ 29) (h : GR S c) (hop : xs p &&& (31 : Int32) = nI 9) : ∃ S' c', L_law_1000_c0_b18 N L xs rec18 (nI p) S = rec18 (nI (p + 4)) S' ∧ GR S' c' ∧ c ≤ c' ∧ c' ≤ c + 11 := by
  have hlt : ¬ (Int32.ofNat L) - (4 : Int32) < nI p := by
    have e : (Int32.ofNat L) - (4 : Int32) = nI (L - 4) := pk_sub (a := L) (b := 4) (by omega)
    rw [e]
    exact iNLT (L - 4) p (by omega)
  have g0 : aIx (nI p) L = true := m_ix (by omega) (by omega)
  have g1 : aIx (nI (p + 1)) L = true := m_ix (by omega) (by omega)
  have g2 : aIx (nI (p + 2)) L = true := m_ix (by omega) (by omega)
  have g3 : aIx (nI (p + 3)) L = true := m_ix (by omega) (by omega)
  have k1 : (nI (p + 1)).toNatClampNeg = p + 1 := nI_clamp (by omega)
  have k2 : (nI (p + 2)).toNatClampNeg = p + 2 := nI_clamp (by omega)
  have k3 : (nI (p + 3)).toNatClampNeg = p + 3 := nI_clamp (by omega)
  obtain ⟨r, S1, S2, c', a1, a2, a3, a4, a5⟩ := g_mend (N := N) (xs (p + 1)) (xs (p + 2)) (xs (p + 3)) (by omega) (by omega) h
  refine ⟨S2, c', ?_, a3, a4, a5⟩
  unfold L_law_1000_c0_b18
  rw [if_neg hlt, if_pos g0, nI_clamp (show p < 2 ^ 31 by omega), hop, if_neg (by decide), if_neg (by decide), if_neg (by decide), if_neg (by decide), if_neg (by decide), if_neg (by decide), if_neg (by decide), if_neg (by decide), if_neg (by decide), if_neg (by decide), if_pos (show nI 9 = (9 : Int32) from rfl)]
  simp only [nI_1, m_a2, m_a3, m_a4, g1, g2, g3, k1, k2, k3, ↓reduceIte, Option.bind_some, L_law_1000_c0_b940, aLet, a1, a2, lg_rr]
theorem w_10 {N L p c : Nat} {xs : Nat → Int32} {rec18 : Int32 → aSt → Option Int32} {S : aSt} (hN : 6000 ≤ N) (hL : L ≤ 2048) (hp : p + 3 < L) (hc : c < 2 ^ 29) (h : GR S c) (hop : xs p &&& (31 : Int32) = nI 10) : ∃ S' c', L_law_1000_c0_b18 N L xs rec18 (nI p) S = rec18 (nI (p + 4)) S' ∧ GR S' c' ∧ c ≤ c' ∧ c' ≤ c + 11 := by
  have hlt : ¬ (Int32.ofNat L) - (4 : Int32) < nI p := by
    have e : (Int32.ofNat L) - (4 : Int32) = nI (L - 4) := pk_sub (a := L) (b := 4) (by omega)
    rw [e]
    exact iNLT (L - 4) p (by omega)
  have g0 : aIx (nI p) L = true := m_ix (by omega) (by omega)
  have g1 : aIx (nI (p + 1)) L = true := m_ix (by omega) (by omega)
  have g2 : aIx (nI (p + 2)) L = true := m_ix (by omega) (by omega)
  have g3 : aIx (nI (p + 3)) L = true := m_ix (by omega) (by omega)
  have k1 : (nI (p + 1)).toNatClampNeg = p + 1 := nI_clamp (by omega)
  have k2 : (nI (p + 2)).toNatClampNeg = p + 2 := nI_clamp (by omega)
  have k3 : (nI (p + 3)).toNatClampNeg = p + 3 := nI_clamp (by omega)
  obtain ⟨r, S1, S2, c', a1, a2, a3, a4, a5⟩ := g_strike (N := N) (xs (p + 1)) (by omega) (by omega) h
  refine ⟨S2, c', ?_, a3, a4, a5⟩
  unfold L_law_1000_c0_b18
  rw [if_neg hlt, if_pos g0, nI_clamp (show p < 2 ^ 31 by omega), hop, if_neg (by decide), if_neg (by decide), if_neg (by decide), if_neg (by decide), if_neg (by decide), if_neg (by decide), if_neg (by decide), if_neg (by decide), if_neg (by decide), if_neg (by decide), if_neg (by decide), if_pos (show nI 10 = (10 : Int32) from rfl)]
  simp only [nI_1, m_a2, m_a3, m_a4, g1, g2, g3, k1, k2, k3, ↓reduceIte, Option.bind_some, L_law_1000_c0_b940, aLet, a1, a2, lg_rr]
theorem w_11 {N L p c : Nat} {xs : Nat → Int32} {rec18 : Int32 → aSt → Option Int32} {S : aSt} (hN : 6000 ≤ N) (hL : L ≤ 2048) (hp : p + 3 < L) (hc : c < 2 ^ 29) (h : GR S c) (hop : xs p &&& (31 : Int32) = nI 11) : ∃ S' c', L_law_1000_c0_b18 N L xs rec18 (nI p) S = rec18 (nI (p + 4)) S' ∧ GR S' c' ∧ c ≤ c' ∧ c' ≤ c + 11 := by
  have hlt : ¬ (Int32.ofNat L) - (4 : Int32) < nI p := by
    have e : (Int32.ofNat L) - (4 : Int32) = nI (L - 4) := pk_sub (a := L) (b := 4) (by omega)
    rw [e]
    exact iNLT (L - 4) p (by omega)
  have g0 : aIx (nI p) L = true := m_ix (by omega) (by omega)
  have g1 : aIx (nI (p + 1)) L = true := m_ix (by omega) (by omega)
  have g2 : aIx (nI (p + 2)) L = true := m_ix (by omega) (by omega)
  have g3 : aIx (nI (p + 3)) L = true := m_ix (by omega) (by omega)
  have k1 : (nI (p + 1)).toNatClampNeg = p + 1 := nI_clamp (by omega)
  have k2 : (nI (p + 2)).toNatClampNeg = p + 2 := nI_clamp (by omega)
  have k3 : (nI (p + 3)).toNatClampNeg = p + 3 := nI_clamp (by omega)
  obtain ⟨r, a1, a2⟩ := m_signs (N := N) (by omega) h.2.1
  refine ⟨S, c, ?_, h, Nat.le_refl _, by omega⟩
  unfold L_law_1000_c0_b18
  rw [if_neg hlt, if_pos g0, nI_clamp (show p < 2 ^ 31 by omega), hop, if_neg (by decide), if_neg (by decide), if_neg (by decide), if_neg (by decide), if_neg (by decide), if_neg (by decide), if_neg (by decide), if_neg (by decide), if_neg (by decide), if_neg (by decide), if_neg (by decide), if_neg (by decide), if_pos (show nI 11 = (11 : Int32) from rfl)]
  simp only [nI_1, m_a2, m_a3, m_a4, g1, g2, g3, k1, k2, k3, ↓reduceIte, Option.bind_some, L_law_1000_c0_b940, aLet, a1, a2, lg_rr]
theorem w_12 {N L p c : Nat} {xs : Nat → Int32} {rec18 : Int32 → aSt → Option Int32} {S : aSt} (hN : 6000 ≤ N) (hL : L ≤ 2048) (hp : p + 3 < L) (hc : c < 2 ^ 29) (h : GR S c) (hop : xs p &&& (31 : Int32) = nI 12) : ∃ S' c', L_law_1000_c0_b18 N L xs rec18 (nI p) S = rec18 (nI (p + 4)) S' ∧ GR S' c' ∧ c ≤ c' ∧ c' ≤ c + 11 := by
  have hlt : ¬ (Int32.ofNat L) - (4 : Int32) < nI p := by
    have e : (Int32.ofNat L) - (4 : Int32) = nI (L - 4) := pk_sub (a := L) (b := 4) (by omega)
    rw [e]
    exact iNLT (L - 4) p (by omega)
  have g0 : aIx (nI p) L = true := m_ix (by omega) (by omega)
  have g1 : aIx (nI (p + 1)) L = true := m_ix (by omega) (by omega)
  have g2 : aIx (nI (p + 2)) L = true := m_ix (by omega) (by omega)
  have g3 : aIx (nI (p + 3)) L = true := m_ix (by omega) (by omega)
  have k1 : (nI (p + 1)).toNatClampNeg = p + 1 := nI_clamp (by omega)
  have k2 : (nI (p + 2)).toNatClampNeg = p + 2 := nI_clamp (by omega)
  have k3 : (nI (p + 3)).toNatClampNeg = p + 3 := nI_clamp (by omega)
  by_cases cz : xs (p + 3) = 0
  · obtain ⟨r, S1, S2, a1, a2, a3⟩ := m_one (N := N) (x := (xs (p + 1))) (y := (xs (p + 2))) (z := 0) (by omega) (by omega) (by decide) h
    refine ⟨S2, c, ?_, a3, Nat.le_refl _, by omega⟩
    unfold L_law_1000_c0_b18
    rw [if_neg hlt, if_pos g0, nI_clamp (show p < 2 ^ 31 by omega), hop, if_neg (by decide), if_neg (by decide), if_neg (by decide), if_neg (by decide), if_neg (by decide), if_neg (by decide), if_neg (by decide), if_neg (by decide), if_neg (by decide), if_neg (by decide), if_neg (by decide), if_neg (by decide), if_neg (by decide), if_pos (show nI 12 = (12 : Int32) from rfl)]
    simp only [nI_1, m_a2, m_a3, m_a4, g1, g2, g3, k1, k2, k3, ↓reduceIte, Option.bind_some, L_law_1000_c0_b940, aLet, L_law_1000_c0_b498, L_law_1000_c0_b525, a1, a2, lg_rr, cz]
  · obtain ⟨r, S1, S2, a1, a2, a3⟩ := m_one (N := N) (x := (xs (p + 1))) (y := (xs (p + 2))) (z := 1) (by omega) (by omega) (by decide) h
    refine ⟨S2, c, ?_, a3, Nat.le_refl _, by omega⟩
    unfold L_law_1000_c0_b18
    rw [if_neg hlt, if_pos g0, nI_clamp (show p < 2 ^ 31 by omega), hop, if_neg (by decide), if_neg (by decide), if_neg (by decide), if_neg (by decide), if_neg (by decide), if_neg (by decide), if_neg (by decide), if_neg (by decide), if_neg (by decide), if_neg (by decide), if_neg (by decide), if_neg (by decide), if_neg (by decide), if_pos (show nI 12 = (12 : Int32) from rfl)]
    simp only [nI_1, m_a2, m_a3, m_a4, g1, g2, g3, k1, k2, k3, ↓reduceIte, Option.bind_some, L_law_1000_c0_b940, aLet, L_law_1000_c0_b498, L_law_1000_c0_b525, a1, a2, lg_rr, cz]
theorem w_13 {N L p c : Nat} {xs : Nat → Int32} {rec18 : Int32 → aSt → Option Int32} {S : aSt} (hN : 6000 ≤ N) (hL : L ≤ 2048) (hp : p + 3 < L) (hc : c < 2 ^ 29) (h : GR S c) (hop : xs p &&& (31 : Int32) = nI 13) : ∃ S' c', L_law_1000_c0_b18 N L xs rec18 (nI p) S = rec18 (nI (p + 4)) S' ∧ GR S' c' ∧ c ≤ c' ∧ c' ≤ c + 11 := by
  have hlt : ¬ (Int32.ofNat L) - (4 : Int32) < nI p := by
    have e : (Int32.ofNat L) - (4 : Int32) = nI (L - 4) := pk_sub (a := L) (b := 4) (by omega)
    rw [e]
    exact iNLT (L - 4) p (by omega)
  have g0 : aIx (nI p) L = true := m_ix (by omega) (by omega)
  have g1 : aIx (nI (p + 1)) L = true := m_ix (by omega) (by omega)
  have g2 : aIx (nI (p + 2)) L = true := m_ix (by omega) (by omega)
  have g3 : aIx (nI (p + 3)) L = true := m_ix (by omega) (by omega)
  have k1 : (nI (p + 1)).toNatClampNeg = p + 1 := nI_clamp (by omega)
  have k2 : (nI (p + 2)).toNatClampNeg = p + 2 := nI_clamp (by omega)
  have k3 : (nI (p + 3)).toNatClampNeg = p + 3 := nI_clamp (by omega)
  obtain ⟨r, S1, S2, a1, a2, a3⟩ := m_ofKind (N := N) (xs (p + 1)) (by omega) (by omega) h
  refine ⟨S2, c, ?_, a3, Nat.le_refl _, by omega⟩
  unfold L_law_1000_c0_b18
  rw [if_neg hlt, if_pos g0, nI_clamp (show p < 2 ^ 31 by omega), hop, if_neg (by decide), if_neg (by decide), if_neg (by decide), if_neg (by decide), if_neg (by decide), if_neg (by decide), if_neg (by decide), if_neg (by decide), if_neg (by decide), if_neg (by decide), if_neg (by decide), if_neg (by decide), if_neg (by decide), if_neg (by decide), if_pos (show nI 13 = (13 : Int32) from rfl)]
  simp only [nI_1, m_a2, m_a3, m_a4, g1, g2, g3, k1, k2, k3, ↓reduceIte, Option.bind_some, L_law_1000_c0_b940, aLet, a1, a2, lg_rr]
theorem w_14 {N L p c : Nat} {xs : Nat → Int32} {rec18 : Int32 → aSt → Option Int32} {S : aSt} (hN : 6000 ≤ N) (hL : L ≤ 2048) (hp : p + 3 < L) (hc : c < 2 ^ 29) (h : GR S c) (hop : xs p &&& (31 : Int32) = nI 14) : ∃ S' c', L_law_1000_c0_b18 N L xs rec18 (nI p) S = rec18 (nI (p + 4)) S' ∧ GR S' c' ∧ c ≤ c' ∧ c' ≤ c + 11 := by
  have hlt : ¬ (Int32.ofNat L) - (4 : Int32) < nI p := by
    have e : (Int32.ofNat L) - (4 : Int32) = nI (L - 4) := pk_sub (a := L) (b := 4) (by omega)
    rw [e]
    exact iNLT (L - 4) p (by omega)
  have g0 : aIx (nI p) L = true := m_ix (by omega) (by omega)
  have g1 : aIx (nI (p + 1)) L = true := m_ix (by omega) (by omega)
  have g2 : aIx (nI (p + 2)) L = true := m_ix (by omega) (by omega)
  have g3 : aIx (nI (p + 3)) L = true := m_ix (by omega) (by omega)
  have k1 : (nI (p + 1)).toNatClampNeg = p + 1 := nI_clamp (by omega)
  have k2 : (nI (p + 2)).toNatClampNeg = p + 2 := nI_clamp (by omega)
  have k3 : (nI (p + 3)).toNatClampNeg = p + 3 := nI_clamp (by omega)
  obtain ⟨r, S1, S2, a1, a2, a3⟩ := m_two (N := N) (xs (p + 1)) (by omega) (by omega) h
  refine ⟨S2, c, ?_, a3, Nat.le_refl _, by omega⟩
  unfold L_law_1000_c0_b18
  rw [if_neg hlt, if_pos g0, nI_clamp (show p < 2 ^ 31 by omega), hop, if_neg (by decide), if_neg (by decide), if_neg (by decide), if_neg (by decide), if_neg (by decide), if_neg (by decide), if_neg (by decide), if_neg (by decide), if_neg (by decide), if_neg (by decide), if_neg (by decide), if_neg (by decide), if_neg (by decide), if_neg (by decide), if_neg (by decide), if_pos (show nI 14 = (14 : Int32) from rfl)]
  simp only [nI_1, m_a2, m_a3, m_a4, g1, g2, g3, k1, k2, k3, ↓reduceIte, Option.bind_some, L_law_1000_c0_b940, aLet, a1, a2, lg_rr]
theorem w_15 {N L p c : Nat} {xs : Nat → Int32} {rec18 : Int32 → aSt → Option Int32} {S : aSt} (hN : 6000 ≤ N) (hL : L ≤ 2048) (hp : p + 3 < L) (hc : c < 2 ^ 29) (h : GR S c) (hop : xs p &&& (31 : Int32) = nI 15) : ∃ S' c', L_law_1000_c0_b18 N L xs rec18 (nI p) S = rec18 (nI (p + 4)) S' ∧ GR S' c' ∧ c ≤ c' ∧ c' ≤ c + 11 := by
  have hlt : ¬ (Int32.ofNat L) - (4 : Int32) < nI p := by
    have e : (Int32.ofNat L) - (4 : Int32) = nI (L - 4) := pk_sub (a := L) (b := 4) (by omega)
    rw [e]
    exact iNLT (L - 4) p (by omega)
  have g0 : aIx (nI p) L = true := m_ix (by omega) (by omega)
  have g1 : aIx (nI (p + 1)) L = true := m_ix (by omega) (by omega)
  have g2 : aIx (nI (p + 2)) L = true := m_ix (by omega) (by omega)
  have g3 : aIx (nI (p + 3)) L = true := m_ix (by omega) (by omega)
  have k1 : (nI (p + 1)).toNatClampNeg = p + 1 := nI_clamp (by omega)
  have k2 : (nI (p + 2)).toNatClampNeg = p + 2 := nI_clamp (by omega)
  have k3 : (nI (p + 3)).toNatClampNeg = p + 3 := nI_clamp (by omega)
  obtain ⟨r, S1, S2, a1, a2, a3⟩ := m_hide (N := N) (xs (p + 1)) (by omega) (by omega) h
  refine ⟨S2, c, ?_, a3, Nat.le_refl _, by omega⟩
  unfold L_law_1000_c0_b18
  rw [if_neg hlt, if_pos g0, nI_clamp (show p < 2 ^ 31 by omega), hop, if_neg (by decide), if_neg (by decide), if_neg (by decide), if_neg (by decide), if_neg (by decide), if_neg (by decide), if_neg (by decide), if_neg (by decide), if_neg (by decide), if_neg (by decide), if_neg (by decide), if_neg (by decide), if_neg (by decide), if_neg (by decide), if_neg (by decide), if_neg (by decide), if_pos (show nI 15 = (15 : Int32) from rfl)]
  simp only [nI_1, m_a2, m_a3, m_a4, g1, g2, g3, k1, k2, k3, ↓reduceIte, Option.bind_some, L_law_1000_c0_b940, aLet, a1, a2, lg_rr]
theorem w_16 {N L p c : Nat} {xs : Nat → Int32} {rec18 : Int32 → aSt → Option Int32} {S : aSt} (hN : 6000 ≤ N) (hL : L ≤ 2048) (hp : p + 3 < L) (hc : c < 2 ^ 29) (h : GR S c) (hop : xs p &&& (31 : Int32) = nI 16) : ∃ S' c', L_law_1000_c0_b18 N L xs rec18 (nI p) S = rec18 (nI (p + 4)) S' ∧ GR S' c' ∧ c ≤ c' ∧ c' ≤ c + 11 := by
  have hlt : ¬ (Int32.ofNat L) - (4 : Int32) < nI p := by
    have e : (Int32.ofNat L) - (4 : Int32) = nI (L - 4) := pk_sub (a := L) (b := 4) (by omega)
    rw [e]
    exact iNLT (L - 4) p (by omega)
  have g0 : aIx (nI p) L = true := m_ix (by omega) (by omega)
  have g1 : aIx (nI (p + 1)) L = true := m_ix (by omega) (by omega)
  have g2 : aIx (nI (p + 2)) L = true := m_ix (by omega) (by omega)
  have g3 : aIx (nI (p + 3)) L = true := m_ix (by omega) (by omega)
  have k1 : (nI (p + 1)).toNatClampNeg = p + 1 := nI_clamp (by omega)
  have k2 : (nI (p + 2)).toNatClampNeg = p + 2 := nI_clamp (by omega)
  have k3 : (nI (p + 3)).toNatClampNeg = p + 3 := nI_clamp (by omega)
  by_cases cz : xs (p + 1) = 0
  · obtain ⟨r, S1, S2, a1, a2, a3⟩ := m_pair (N := N) (z := 0) (xs (p + 2)) (by omega) (by omega) (by decide) h
    refine ⟨S2, c, ?_, a3, Nat.le_refl _, by omega⟩
    unfold L_law_1000_c0_b18
    rw [if_neg hlt, if_pos g0, nI_clamp (show p < 2 ^ 31 by omega), hop, if_neg (by decide), if_neg (by decide), if_neg (by decide), if_neg (by decide), if_neg (by decide), if_neg (by decide), if_neg (by decide), if_neg (by decide), if_neg (by decide), if_neg (by decide), if_neg (by decide), if_neg (by decide), if_neg (by decide), if_neg (by decide), if_neg (by decide), if_neg (by decide), if_neg (by decide), if_pos (show nI 16 = (16 : Int32) from rfl)]
    simp only [nI_1, m_a2, m_a3, m_a4, g1, g2, g3, k1, k2, k3, ↓reduceIte, Option.bind_some, L_law_1000_c0_b940, aLet, L_law_1000_c0_b618, L_law_1000_c0_b640, a1, a2, lg_rr, cz]
  · obtain ⟨r, S1, S2, a1, a2, a3⟩ := m_pair (N := N) (z := 1) (xs (p + 2)) (by omega) (by omega) (by decide) h
    refine ⟨S2, c, ?_, a3, Nat.le_refl _, by omega⟩
    unfold L_law_1000_c0_b18
    rw [if_neg hlt, if_pos g0, nI_clamp (show p < 2 ^ 31 by omega), hop, if_neg (by decide), if_neg (by decide), if_neg (by decide), if_neg (by decide), if_neg (by decide), if_neg (by decide), if_neg (by decide), if_neg (by decide), if_neg (by decide), if_neg (by decide), if_neg (by decide), if_neg (by decide), if_neg (by decide), if_neg (by decide), if_neg (by decide), if_neg (by decide), if_neg (by decide), if_pos (show nI 16 = (16 : Int32) from rfl)]
    simp only [nI_1, m_a2, m_a3, m_a4, g1, g2, g3, k1, k2, k3, ↓reduceIte, Option.bind_some, L_law_1000_c0_b940, aLet, L_law_1000_c0_b618, L_law_1000_c0_b640, a1, a2, lg_rr, cz]
theorem w_17 {N L p c : Nat} {xs : Nat → Int32} {rec18 : Int32 → aSt → Option Int32} {S : aSt} (hN : 6000 ≤ N) (hL : L ≤ 2048) (hp : p + 3 < L) (hc : c < 2 ^ 29) (h : GR S c) (hop : xs p &&& (31 : Int32) = nI 17) : ∃ S' c', L_law_1000_c0_b18 N L xs rec18 (nI p) S = rec18 (nI (p + 4)) S' ∧ GR S' c' ∧ c ≤ c' ∧ c' ≤ c + 11 := by
  have hlt : ¬ (Int32.ofNat L) - (4 : Int32) < nI p := by
    have e : (Int32.ofNat L) - (4 : Int32) = nI (L - 4) := pk_sub (a := L) (b := 4) (by omega)
    rw [e]
    exact iNLT (L - 4) p (by omega)
  have g0 : aIx (nI p) L = true := m_ix (by omega) (by omega)
  have g1 : aIx (nI (p + 1)) L = true := m_ix (by omega) (by omega)
  have g2 : aIx (nI (p + 2)) L = true := m_ix (by omega) (by omega)
  have g3 : aIx (nI (p + 3)) L = true := m_ix (by omega) (by omega)
  have k1 : (nI (p + 1)).toNatClampNeg = p + 1 := nI_clamp (by omega)
  have k2 : (nI (p + 2)).toNatClampNeg = p + 2 := nI_clamp (by omega)
  have k3 : (nI (p + 3)).toNatClampNeg = p + 3 := nI_clamp (by omega)
  obtain ⟨r, S1, S2, a1, a2, a3⟩ := m_chance (N := N) (xs (p + 1)) (xs (p + 2)) (by omega) (by omega) h
  refine ⟨S2, c, ?_, a3, Nat.le_refl _, by omega⟩
  unfold L_law_1000_c0_b18
  rw [if_neg hlt, if_pos g0, nI_clamp (show p < 2 ^ 31 by omega), hop, if_neg (by decide), if_neg (by decide), if_neg (by decide), if_neg (by decide), if_neg (by decide), if_neg (by decide), if_neg (by decide), if_neg (by decide), if_neg (by decide), if_neg (by decide), if_neg (by decide), if_neg (by decide), if_neg (by decide), if_neg (by decide), if_neg (by decide), if_neg (by decide), if_neg (by decide), if_neg (by decide), if_pos (show nI 17 = (17 : Int32) from rfl)]
  simp only [nI_1, m_a2, m_a3, m_a4, g1, g2, g3, k1, k2, k3, ↓reduceIte, Option.bind_some, L_law_1000_c0_b940, aLet, a1, a2, lg_rr]
theorem w_18 {N L p c : Nat} {xs : Nat → Int32} {rec18 : Int32 → aSt → Option Int32} {S : aSt} (hN : 6000 ≤ N) (hL : L ≤ 2048) (hp : p + 3 < L) (hc : c < 2 ^ 29) (h : GR S c) (hop : xs p &&& (31 : Int32) = nI 18) : ∃ S' c', L_law_1000_c0_b18 N L xs rec18 (nI p) S = rec18 (nI (p + 4)) S' ∧ GR S' c' ∧ c ≤ c' ∧ c' ≤ c + 11 := by
  have hlt : ¬ (Int32.ofNat L) - (4 : Int32) < nI p := by
    have e : (Int32.ofNat L) - (4 : Int32) = nI (L - 4) := pk_sub (a := L) (b := 4) (by omega)
    rw [e]
    exact iNLT (L - 4) p (by omega)
  have g0 : aIx (nI p) L = true := m_ix (by omega) (by omega)
  have g1 : aIx (nI (p + 1)) L = true := m_ix (by omega) (by omega)
  have g2 : aIx (nI (p + 2)) L = true := m_ix (by omega) (by omega)
  have g3 : aIx (nI (p + 3)) L = true := m_ix (by omega) (by omega)
  have k1 : (nI (p + 1)).toNatClampNeg = p + 1 := nI_clamp (by omega)
  have k2 : (nI (p + 2)).toNatClampNeg = p + 2 := nI_clamp (by omega)
  have k3 : (nI (p + 3)).toNatClampNeg = p + 3 := nI_clamp (by omega)
  obtain ⟨r, S1, S2, a1, a2, a3⟩ := m_whose (N := N) (xs (p + 1)) (xs (p + 2)) (by omega) (by omega) h
  refine ⟨S2, c, ?_, a3, Nat.le_refl _, by omega⟩
  unfold L_law_1000_c0_b18
  rw [if_neg hlt, if_pos g0, nI_clamp (show p < 2 ^ 31 by omega), hop, if_neg (by decide), if_neg (by decide), if_neg (by decide), if_neg (by decide), if_neg (by decide), if_neg (by decide), if_neg (by decide), if_neg (by decide), if_neg (by decide), if_neg (by decide), if_neg (by decide), if_neg (by decide), if_neg (by decide), if_neg (by decide), if_neg (by decide), if_neg (by decide), if_neg (by decide), if_neg (by decide), if_neg (by decide), if_pos (show nI 18 = (18 : Int32) from rfl)]
  simp only [nI_1, m_a2, m_a3, m_a4, g1, g2, g3, k1, k2, k3, ↓reduceIte, Option.bind_some, L_law_1000_c0_b940, aLet, a1, a2, lg_rr]
theorem w_19 {N L p c : Nat} {xs : Nat → Int32} {rec18 : Int32 → aSt → Option Int32} {S : aSt} (hN : 6000 ≤ N) (hL : L ≤ 2048) (hp : p + 3 < L) (hc : c < 2 ^ 29) (h : GR S c) (hop : xs p &&& (31 : Int32) = nI 19) : ∃ S' c', L_law_1000_c0_b18 N L xs rec18 (nI p) S = rec18 (nI (p + 4)) S' ∧ GR S' c' ∧ c ≤ c' ∧ c' ≤ c + 11 := by
  have hlt : ¬ (Int32.ofNat L) - (4 : Int32) < nI p := by
    have e : (Int32.ofNat L) - (4 : Int32) = nI (L - 4) := pk_sub (a := L) (b := 4) (by omega)
    rw [e]
    exact iNLT (L - 4) p (by omega)
  have g0 : aIx (nI p) L = true := m_ix (by omega) (by omega)
  have g1 : aIx (nI (p + 1)) L = true := m_ix (by omega) (by omega)
  have g2 : aIx (nI (p + 2)) L = true := m_ix (by omega) (by omega)
  have g3 : aIx (nI (p + 3)) L = true := m_ix (by omega) (by omega)
  have k1 : (nI (p + 1)).toNatClampNeg = p + 1 := nI_clamp (by omega)
  have k2 : (nI (p + 2)).toNatClampNeg = p + 2 := nI_clamp (by omega)
  have k3 : (nI (p + 3)).toNatClampNeg = p + 3 := nI_clamp (by omega)
  by_cases cz : xs (p + 2) = 0
  · obtain ⟨r, S1, S2, a1, a2, a3⟩ := m_look (N := N) (z := 0) (xs (p + 1)) (by omega) (by omega) (by decide) h
    refine ⟨S2, c, ?_, a3, Nat.le_refl _, by omega⟩
    unfold L_law_1000_c0_b18
    rw [if_neg hlt, if_pos g0, nI_clamp (show p < 2 ^ 31 by omega), hop, if_neg (by decide), if_neg (by decide), if_neg (by decide), if_neg (by decide), if_neg (by decide), if_neg (by decide), if_neg (by decide), if_neg (by decide), if_neg (by decide), if_neg (by decide), if_neg (by decide), if_neg (by decide), if_neg (by decide), if_neg (by decide), if_neg (by decide), if_neg (by decide), if_neg (by decide), if_neg (by decide), if_neg (by decide), if_neg (by decide), if_pos (show nI 19 = (19 : Int32) from rfl)]
    simp only [nI_1, m_a2, m_a3, m_a4, g1, g2, g3, k1, k2, k3, ↓reduceIte, Option.bind_some, L_law_1000_c0_b940, aLet, L_law_1000_c0_b739, L_law_1000_c0_b761, a1, a2, lg_rr, cz]
  · obtain ⟨r, S1, S2, a1, a2, a3⟩ := m_look (N := N) (z := 1) (xs (p + 1)) (by omega) (by omega) (by decide) h
    refine ⟨S2, c, ?_, a3, Nat.le_refl _, by omega⟩
    unfold L_law_1000_c0_b18
    rw [if_neg hlt, if_pos g0, nI_clamp (show p < 2 ^ 31 by omega), hop, if_neg (by decide), if_neg (by decide), if_neg (by decide), if_neg (by decide), if_neg (by decide), if_neg (by decide), if_neg (by decide), if_neg (by decide), if_neg (by decide), if_neg (by decide), if_neg (by decide), if_neg (by decide), if_neg (by decide), if_neg (by decide), if_neg (by decide), if_neg (by decide), if_neg (by decide), if_neg (by decide), if_neg (by decide), if_neg (by decide), if_pos (show nI 19 = (19 : Int32) from rfl)]
    simp only [nI_1, m_a2, m_a3, m_a4, g1, g2, g3, k1, k2, k3, ↓reduceIte, Option.bind_some, L_law_1000_c0_b940, aLet, L_law_1000_c0_b739, L_law_1000_c0_b761, a1, a2, lg_rr, cz]
theorem w_20 {N L p c : Nat} {xs : Nat → Int32} {rec18 : Int32 → aSt → Option Int32} {S : aSt} (hN : 6000 ≤ N) (hL : L ≤ 2048) (hp : p + 3 < L) (hc : c < 2 ^ 29) (h : GR S c) (hop : xs p &&& (31 : Int32) = nI 20) : ∃ S' c', L_law_1000_c0_b18 N L xs rec18 (nI p) S = rec18 (nI (p + 4)) S' ∧ GR S' c' ∧ c ≤ c' ∧ c' ≤ c + 11 := by
  have hlt : ¬ (Int32.ofNat L) - (4 : Int32) < nI p := by
    have e : (Int32.ofNat L) - (4 : Int32) = nI (L - 4) := pk_sub (a := L) (b := 4) (by omega)
    rw [e]
    exact iNLT (L - 4) p (by omega)
  have g0 : aIx (nI p) L = true := m_ix (by omega) (by omega)
  have g1 : aIx (nI (p + 1)) L = true := m_ix (by omega) (by omega)
  have g2 : aIx (nI (p + 2)) L = true := m_ix (by omega) (by omega)
  have g3 : aIx (nI (p + 3)) L = true := m_ix (by omega) (by omega)
  have k1 : (nI (p + 1)).toNatClampNeg = p + 1 := nI_clamp (by omega)
  have k2 : (nI (p + 2)).toNatClampNeg = p + 2 := nI_clamp (by omega)
  have k3 : (nI (p + 3)).toNatClampNeg = p + 3 := nI_clamp (by omega)
  by_cases cz : xs (p + 1) = 0
  · obtain ⟨r, S1, S2, a1, a2, a3⟩ := m_mean (N := N) (z := 0) (xs (p + 2)) (by omega) (by omega) (by decide) h
    refine ⟨S2, c, ?_, a3, Nat.le_refl _, by omega⟩
    unfold L_law_1000_c0_b18
    rw [if_neg hlt, if_pos g0, nI_clamp (show p < 2 ^ 31 by omega), hop, if_neg (by decide), if_neg (by decide), if_neg (by decide), if_neg (by decide), if_neg (by decide), if_neg (by decide), if_neg (by decide), if_neg (by decide), if_neg (by decide), if_neg (by decide), if_neg (by decide), if_neg (by decide), if_neg (by decide), if_neg (by decide), if_neg (by decide), if_neg (by decide), if_neg (by decide), if_neg (by decide), if_neg (by decide), if_neg (by decide), if_neg (by decide), if_pos (show nI 20 = (20 : Int32) from rfl)]
    simp only [nI_1, m_a2, m_a3, m_a4, g1, g2, g3, k1, k2, k3, ↓reduceIte, Option.bind_some, L_law_1000_c0_b940, aLet, L_law_1000_c0_b783, L_law_1000_c0_b805, a1, a2, lg_rr, cz]
  · obtain ⟨r, S1, S2, a1, a2, a3⟩ := m_mean (N := N) (z := 1) (xs (p + 2)) (by omega) (by omega) (by decide) h
    refine ⟨S2, c, ?_, a3, Nat.le_refl _, by omega⟩
    unfold L_law_1000_c0_b18
    rw [if_neg hlt, if_pos g0, nI_clamp (show p < 2 ^ 31 by omega), hop, if_neg (by decide), if_neg (by decide), if_neg (by decide), if_neg (by decide), if_neg (by decide), if_neg (by decide), if_neg (by decide), if_neg (by decide), if_neg (by decide), if_neg (by decide), if_neg (by decide), if_neg (by decide), if_neg (by decide), if_neg (by decide), if_neg (by decide), if_neg (by decide), if_neg (by decide), if_neg (by decide), if_neg (by decide), if_neg (by decide), if_neg (by decide), if_pos (show nI 20 = (20 : Int32) from rfl)]
    simp only [nI_1, m_a2, m_a3, m_a4, g1, g2, g3, k1, k2, k3, ↓reduceIte, Option.bind_some, L_law_1000_c0_b940, aLet, L_law_1000_c0_b783, L_law_1000_c0_b805, a1, a2, lg_rr, cz]
theorem w_21 {N L p c : Nat} {xs : Nat → Int32} {rec18 : Int32 → aSt → Option Int32} {S : aSt} (hN : 6000 ≤ N) (hL : L ≤ 2048) (hp : p + 3 < L) (hc : c < 2 ^ 29) (h : GR S c) (hop : xs p &&& (31 : Int32) = nI 21) : ∃ S' c', L_law_1000_c0_b18 N L xs rec18 (nI p) S = rec18 (nI (p + 4)) S' ∧ GR S' c' ∧ c ≤ c' ∧ c' ≤ c + 11 := by
  have hlt : ¬ (Int32.ofNat L) - (4 : Int32) < nI p := by
    have e : (Int32.ofNat L) - (4 : Int32) = nI (L - 4) := pk_sub (a := L) (b := 4) (by omega)
    rw [e]
    exact iNLT (L - 4) p (by omega)
  have g0 : aIx (nI p) L = true := m_ix (by omega) (by omega)
  have g1 : aIx (nI (p + 1)) L = true := m_ix (by omega) (by omega)
  have g2 : aIx (nI (p + 2)) L = true := m_ix (by omega) (by omega)
  have g3 : aIx (nI (p + 3)) L = true := m_ix (by omega) (by omega)
  have k1 : (nI (p + 1)).toNatClampNeg = p + 1 := nI_clamp (by omega)
  have k2 : (nI (p + 2)).toNatClampNeg = p + 2 := nI_clamp (by omega)
  have k3 : (nI (p + 3)).toNatClampNeg = p + 3 := nI_clamp (by omega)
  obtain ⟨r, a1, a2⟩ := m_judge (N := N) (by omega) (xs (p + 1)) (xs (p + 2)) (xs (p + 3)) h.2.1
  refine ⟨S, c, ?_, h, Nat.le_refl _, by omega⟩
  unfold L_law_1000_c0_b18
  rw [if_neg hlt, if_pos g0, nI_clamp (show p < 2 ^ 31 by omega), hop, if_neg (by decide), if_neg (by decide), if_neg (by decide), if_neg (by decide), if_neg (by decide), if_neg (by decide), if_neg (by decide), if_neg (by decide), if_neg (by decide), if_neg (by decide), if_neg (by decide), if_neg (by decide), if_neg (by decide), if_neg (by decide), if_neg (by decide), if_neg (by decide), if_neg (by decide), if_neg (by decide), if_neg (by decide), if_neg (by decide), if_neg (by decide), if_neg (by decide), if_pos (show nI 21 = (21 : Int32) from rfl)]
  simp only [nI_1, m_a2, m_a3, m_a4, g1, g2, g3, k1, k2, k3, ↓reduceIte, Option.bind_some, L_law_1000_c0_b940, aLet, a1, a2, lg_rr]
theorem w_22 {N L p c : Nat} {xs : Nat → Int32} {rec18 : Int32 → aSt → Option Int32} {S : aSt} (hN : 6000 ≤ N) (hL : L ≤ 2048) (hp : p + 3 < L) (hc : c < 2 ^ 29) (h : GR S c) (hop : xs p &&& (31 : Int32) = nI 22) : ∃ S' c', L_law_1000_c0_b18 N L xs rec18 (nI p) S = rec18 (nI (p + 4)) S' ∧ GR S' c' ∧ c ≤ c' ∧ c' ≤ c + 11 := by
  have hlt : ¬ (Int32.ofNat L) - (4 : Int32) < nI p := by
    have e : (Int32.ofNat L) - (4 : Int32) = nI (L - 4) := pk_sub (a := L) (b := 4) (by omega)
    rw [e]
    exact iNLT (L - 4) p (by omega)
  have g0 : aIx (nI p) L = true := m_ix (by omega) (by omega)
  have g1 : aIx (nI (p + 1)) L = true := m_ix (by omega) (by omega)
  have g2 : aIx (nI (p + 2)) L = true := m_ix (by omega) (by omega)
  have g3 : aIx (nI (p + 3)) L = true := m_ix (by omega) (by omega)
  have k1 : (nI (p + 1)).toNatClampNeg = p + 1 := nI_clamp (by omega)
  have k2 : (nI (p + 2)).toNatClampNeg = p + 2 := nI_clamp (by omega)
  have k3 : (nI (p + 3)).toNatClampNeg = p + 3 := nI_clamp (by omega)
  obtain ⟨r, S1, S2, a1, a2, a3⟩ := g_other (N := N) (xs (p + 1)) h
  refine ⟨S2, c, ?_, a3, Nat.le_refl _, by omega⟩
  unfold L_law_1000_c0_b18
  rw [if_neg hlt, if_pos g0, nI_clamp (show p < 2 ^ 31 by omega), hop, if_neg (by decide), if_neg (by decide), if_neg (by decide), if_neg (by decide), if_neg (by decide), if_neg (by decide), if_neg (by decide), if_neg (by decide), if_neg (by decide), if_neg (by decide), if_neg (by decide), if_neg (by decide), if_neg (by decide), if_neg (by decide), if_neg (by decide), if_neg (by decide), if_neg (by decide), if_neg (by decide), if_neg (by decide), if_neg (by decide), if_neg (by decide), if_neg (by decide), if_neg (by decide), if_pos (show nI 22 = (22 : Int32) from rfl)]
  simp only [nI_1, m_a2, m_a3, m_a4, g1, g2, g3, k1, k2, k3, ↓reduceIte, Option.bind_some, L_law_1000_c0_b940, aLet, a1, a2, lg_rr]
theorem w_23 {N L p c : Nat} {xs : Nat → Int32} {rec18 : Int32 → aSt → Option Int32} {S : aSt} (hN : 6000 ≤ N) (hL : L ≤ 2048) (hp : p + 3 < L) (hc : c < 2 ^ 29) (h : GR S c) (hop : xs p &&& (31 : Int32) = nI 23) : ∃ S' c', L_law_1000_c0_b18 N L xs rec18 (nI p) S = rec18 (nI (p + 4)) S' ∧ GR S' c' ∧ c ≤ c' ∧ c' ≤ c + 11 := by
  have hlt : ¬ (Int32.ofNat L) - (4 : Int32) < nI p := by
    have e : (Int32.ofNat L) - (4 : Int32) = nI (L - 4) := pk_sub (a := L) (b := 4) (by omega)
    rw [e]
    exact iNLT (L - 4) p (by omega)
  have g0 : aIx (nI p) L = true := m_ix (by omega) (by omega)
  have g1 : aIx (nI (p + 1)) L = true := m_ix (by omega) (by omega)
  have g2 : aIx (nI (p + 2)) L = true := m_ix (by omega) (by omega)
  have g3 : aIx (nI (p + 3)) L = true := m_ix (by omega) (by omega)
  have k1 : (nI (p + 1)).toNatClampNeg = p + 1 := nI_clamp (by omega)
  have k2 : (nI (p + 2)).toNatClampNeg = p + 2 := nI_clamp (by omega)
  have k3 : (nI (p + 3)).toNatClampNeg = p + 3 := nI_clamp (by omega)
  obtain ⟨r, S1, S2, a1, a2, a3⟩ := m_match (N := N) (xs (p + 1)) (xs (p + 2)) (by omega) h
  refine ⟨S2, c, ?_, a3, Nat.le_refl _, by omega⟩
  unfold L_law_1000_c0_b18
  rw [if_neg hlt, if_pos g0, nI_clamp (show p < 2 ^ 31 by omega), hop, if_neg (by decide), if_neg (by decide), if_neg (by decide), if_neg (by decide), if_neg (by decide), if_neg (by decide), if_neg (by decide), if_neg (by decide), if_neg (by decide), if_neg (by decide), if_neg (by decide), if_neg (by decide), if_neg (by decide), if_neg (by decide), if_neg (by decide), if_neg (by decide), if_neg (by decide), if_neg (by decide), if_neg (by decide), if_neg (by decide), if_neg (by decide), if_neg (by decide), if_neg (by decide), if_neg (by decide), if_pos (show nI 23 = (23 : Int32) from rfl)]
  simp only [nI_1, m_a2, m_a3, m_a4, g1, g2, g3, k1, k2, k3, ↓reduceIte, Option.bind_some, L_law_1000_c0_b940, aLet, a1, a2, lg_rr]
theorem w_24 {N L p c : Nat} {xs : Nat → Int32} {rec18 : Int32 → aSt → Option Int32} {S : aSt} (hN : 6000 ≤ N) (hL : L ≤ 2048) (hp : p + 3 < L) (hc : c < 2 ^ 29) (h : GR S c) (hop : xs p &&& (31 : Int32) = nI 24) : ∃ S' c', L_law_1000_c0_b18 N L xs rec18 (nI p) S = rec18 (nI (p + 4)) S' ∧ GR S' c' ∧ c ≤ c' ∧ c' ≤ c + 11 := by
  have hlt : ¬ (Int32.ofNat L) - (4 : Int32) < nI p := by
    have e : (Int32.ofNat L) - (4 : Int32) = nI (L - 4) := pk_sub (a := L) (b := 4) (by omega)
    rw [e]
    exact iNLT (L - 4) p (by omega)
  have g0 : aIx (nI p) L = true := m_ix (by omega) (by omega)
  have g1 : aIx (nI (p + 1)) L = true := m_ix (by omega) (by omega)
  have g2 : aIx (nI (p + 2)) L = true := m_ix (by omega) (by omega)
  have g3 : aIx (nI (p + 3)) L = true := m_ix (by omega) (by omega)
  have k1 : (nI (p + 1)).toNatClampNeg = p + 1 := nI_clamp (by omega)
  have k2 : (nI (p + 2)).toNatClampNeg = p + 2 := nI_clamp (by omega)
  have k3 : (nI (p + 3)).toNatClampNeg = p + 3 := nI_clamp (by omega)
  obtain ⟨r, a1, a2⟩ := m_count N (xs (p + 1)) h.1 h.2.1 h.2.2.1 h.2.2.2.2.1
  refine ⟨S, c, ?_, h, Nat.le_refl _, by omega⟩
  unfold L_law_1000_c0_b18
  rw [if_neg hlt, if_pos g0, nI_clamp (show p < 2 ^ 31 by omega), hop, if_neg (by decide), if_neg (by decide), if_neg (by decide), if_neg (by decide), if_neg (by decide), if_neg (by decide), if_neg (by decide), if_neg (by decide), if_neg (by decide), if_neg (by decide), if_neg (by decide), if_neg (by decide), if_neg (by decide), if_neg (by decide), if_neg (by decide), if_neg (by decide), if_neg (by decide), if_neg (by decide), if_neg (by decide), if_neg (by decide), if_neg (by decide), if_neg (by decide), if_neg (by decide), if_neg (by decide), if_neg (by decide), if_pos (show nI 24 = (24 : Int32) from rfl)]
  simp only [nI_1, m_a2, m_a3, m_a4, g1, g2, g3, k1, k2, k3, ↓reduceIte, Option.bind_some, L_law_1000_c0_b940, aLet, a1, a2, lg_rr]
