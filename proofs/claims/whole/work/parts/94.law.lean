/-! the law: all calls -/
theorem law_step {N L p c : Nat} {xs : Nat → Int32} {rec18 : Int32 → aSt → Option Int32} {S : aSt} (hN : 6000 ≤ N) (hL : L ≤ 2048) (hp : p + 3 < L) (hc : c < 2 ^ 29) (h : GR S c) : ∃ S' c', L_law_1000_c0_b18 N L xs rec18 (nI p) S = rec18 (nI (p + 4)) S' ∧ GR S' c' ∧ c ≤ c' ∧ c' ≤ c + 11 := by
  obtain ⟨j, hj, hop⟩ := pk_andE (xs p) (m := (31 : Int32)) 5 (by decide)
  by_cases c24 : 24 < j
  · have hlt : ¬ (Int32.ofNat L) - (4 : Int32) < nI p := by
      have e : (Int32.ofNat L) - (4 : Int32) = nI (L - 4) := pk_sub (a := L) (b := 4) (by omega)
      rw [e]
      exact iNLT (L - 4) p (by omega)
    have g0 : aIx (nI p) L = true := m_ix (by omega) (by omega)
    refine ⟨S, c, ?_, h, Nat.le_refl _, by omega⟩
    unfold L_law_1000_c0_b18
    rw [if_neg hlt, if_pos g0, nI_clamp (show p < 2 ^ 31 by omega), hop, if_pos (by rw [nI_toInt (by omega)]; omega)]
    unfold L_law_1000_c0_b940
    rw [m_a4]
  · rcases (show j = 0 ∨ j = 1 ∨ j = 2 ∨ j = 3 ∨ j = 4 ∨ j = 5 ∨ j = 6 ∨ j = 7 ∨ j = 8 ∨ j = 9 ∨ j = 10 ∨ j = 11 ∨ j = 12 ∨ j = 13 ∨ j = 14 ∨ j = 15 ∨ j = 16 ∨ j = 17 ∨ j = 18 ∨ j = 19 ∨ j = 20 ∨ j = 21 ∨ j = 22 ∨ j = 23 ∨ j = 24 by omega) with rfl | rfl | rfl | rfl | rfl | rfl | rfl | rfl | rfl | rfl | rfl | rfl | rfl | rfl | rfl | rfl | rfl | rfl | rfl | rfl | rfl | rfl | rfl | rfl | rfl
    · exact w_0 hN hL hp hc h hop
    · exact w_1 hN hL hp hc h hop
    · exact w_2 hN hL hp hc h hop
    · exact w_3 hN hL hp hc h hop
    · exact w_4 hN hL hp hc h hop
    · exact w_5 hN hL hp hc h hop
    · exact w_6 hN hL hp hc h hop
    · exact w_7 hN hL hp hc h hop
    · exact w_8 hN hL hp hc h hop
    · exact w_9 hN hL hp hc h hop
    · exact w_10 hN hL hp hc h hop
    · exact w_11 hN hL hp hc h hop
    · exact w_12 hN hL hp hc h hop
    · exact w_13 hN hL hp hc h hop
    · exact w_14 hN hL hp hc h hop
    · exact w_15 hN hL hp hc h hop
    · exact w_16 hN hL hp hc h hop
    · exact w_17 hN hL hp hc h hop
    · exact w_18 hN hL hp hc h hop
    · exact w_19 hN hL hp hc h hop
    · exact w_20 hN hL hp hc h hop
    · exact w_21 hN hL hp hc h hop
    · exact w_22 hN hL hp hc h hop
    · exact w_23 hN hL hp hc h hop
    · exact w_24 hN hL hp hc h hop
theorem law_l {N L : Nat} {xs : Nat → Int32} (hN : 6000 ≤ N) (hL : L ≤ 2048) : ∀ (m p c f : Nat) (S : aSt), L < p + 4 * m + 4 → p ≤ 2048 → m < f → c ≤ 11 * p → GR S c → L_law_1000_c0_l18 N L xs f (nI p) S = some 1 := by
  intro m
  induction m with
  | zero =>
    intro p c f S hm hp hf hc h
    obtain ⟨f, rfl⟩ : ∃ q, f = q + 1 := ⟨f - 1, by omega⟩
    show L_law_1000_c0_b18 N L xs (L_law_1000_c0_l18 N L xs f) _ _ = _
    unfold L_law_1000_c0_b18
    have e : ((Int32.ofNat L) - (4 : Int32)).toInt = (L : Int) - 4 := pk_sub_toInt (a := L) (b := 4) (by omega) (by omega)
    rw [if_pos (Int32.lt_iff_toInt_lt.mpr (by rw [e, nI_toInt (by omega)]; omega))]
  | succ m ih =>
    intro p c f S hm hp hf hc h
    obtain ⟨f, rfl⟩ : ∃ q, f = q + 1 := ⟨f - 1, by omega⟩
    show L_law_1000_c0_b18 N L xs (L_law_1000_c0_l18 N L xs f) _ _ = _
    by_cases cL : p + 3 < L
    · obtain ⟨S', c', s1, s2, s3, s4⟩ := law_step (xs := xs) (rec18 := L_law_1000_c0_l18 N L xs f) hN hL cL (by omega) h
      rw [s1]
      exact ih (p + 4) c' f S' (by omega) (by omega) (by omega) (by omega) s2
    · unfold L_law_1000_c0_b18
      have e : ((Int32.ofNat L) - (4 : Int32)).toInt = (L : Int) - 4 := pk_sub_toInt (a := L) (b := 4) (by omega) (by omega)
      rw [if_pos (Int32.lt_iff_toInt_lt.mpr (by rw [e, nI_toInt (by omega)]; omega))]
/-- the mathematics: the class's answers are the reference's -/
theorem law_one {L : Nat} (hL : L ≤ 2048) (xs : Nat → Int32) : ∃ N : Nat, L_law N L xs ((fun _ _ => 0), (fun _ _ => 0), (fun _ _ => 0)) = some 1 := by
  obtain ⟨N, hN⟩ : ∃ N : Nat, 6000 ≤ N := ⟨6000, Nat.le_refl _⟩
  refine ⟨N, ?_⟩
  obtain ⟨S1, S2, s1, s2, s3⟩ := m_init (N := N) (by omega) (aClr ((fun _ _ => 0), (fun _ _ => 0), (fun _ _ => 0)) 0)
  unfold L_law
  rw [s1]
  simp only [Option.bind_some]
  rw [s2]
  simp only [Option.bind_some]
  exact law_l hN hL 512 0 0 N S2 (by omega) (by omega) (by omega) (by omega) s3
