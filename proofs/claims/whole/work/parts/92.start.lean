/-! the start -/
theorem gC1 (S : aSt) (k a b : Nat) : (aClr S k).1 a b = if a = k then 0 else S.1 a b := by
  unfold aClr
  by_cases h : a = k <;> simp [h]
theorem gC2 (S : aSt) (k a b : Nat) : (aClr S k).2.2 a b = if a = k then 0 else S.2.2 a b := by
  unfold aClr
  by_cases h : a = k <;> simp [h]
theorem c_fill10 {N : Nat} : ∀ (m i f : Nat) (S : aSt), i + m = 20 → m < f → (∀ h, h < i → S.2.2 10 h = 1) → ∃ T, J7_fill_53178_10_c14_l5 N f (1 : Int32) (nI i) (20 : Int32) S = some T ∧ (∀ h, h < 20 → T.2.2 10 h = 1) ∧ aFr ([], [], [10]) S T := by
  intro m
  induction m with
  | zero =>
    intro i f S hi hf h
    obtain ⟨f, rfl⟩ : ∃ q, f = q + 1 := ⟨f - 1, by omega⟩
    refine ⟨S, ?_, fun j hj => h j (by omega), aFr.rf⟩
    show J7_fill_53178_10_c14_b5 N (J7_fill_53178_10_c14_l5 N f) _ _ _ _ = _
    unfold J7_fill_53178_10_c14_b5
    rw [if_pos (by exact iLE 20 i (by omega))]
  | succ m ih =>
    intro i f S hi hf h
    obtain ⟨f, rfl⟩ : ∃ q, f = q + 1 := ⟨f - 1, by omega⟩
    obtain ⟨T, t1, t2, t3⟩ := ih (i + 1) f (aA S 10 (upd (S.2.2 10) i 1)) (by omega) (by omega) (fun j hj => by
      rw [gA, if_pos rfl, gU]
      by_cases c : j = i
      · rw [if_pos c]
      · rw [if_neg c]; exact h j (by omega))
    refine ⟨T, ?_, t2, (aFr.rf.A 10 _ (by decide)).tr t3⟩
    show J7_fill_53178_10_c14_b5 N (J7_fill_53178_10_c14_l5 N f) _ _ _ _ = _
    unfold J7_fill_53178_10_c14_b5
    rw [if_neg (by exact iNLE 20 i (by omega)), if_pos (m_ix (show i < 20 by omega) (by decide)), nI_clamp (by omega), nI_1]
    exact t1
theorem r_fill47 {N : Nat} : ∀ (m i f : Nat) (S : aSt), i + m = 20 → m < f → (∀ h, h < i → S.2.2 47 h = 1) → ∃ T, X11_init_42_c43_l158 N f (nI i) S = some T ∧ (∀ h, h < 20 → T.2.2 47 h = 1) ∧ aFr ([], [], [47]) S T := by
  intro m
  induction m with
  | zero =>
    intro i f S hi hf h
    obtain ⟨f, rfl⟩ : ∃ q, f = q + 1 := ⟨f - 1, by omega⟩
    refine ⟨S, ?_, fun j hj => h j (by omega), aFr.rf⟩
    show X11_init_42_c43_b158 N (X11_init_42_c43_l158 N f) _ _ = _
    unfold X11_init_42_c43_b158
    rw [if_pos (by exact iLE 20 i (by omega))]
  | succ m ih =>
    intro i f S hi hf h
    obtain ⟨f, rfl⟩ : ∃ q, f = q + 1 := ⟨f - 1, by omega⟩
    obtain ⟨T, t1, t2, t3⟩ := ih (i + 1) f (aA S 47 (upd (S.2.2 47) i 1)) (by omega) (by omega) (fun j hj => by
      rw [gA, if_pos rfl, gU]
      by_cases c : j = i
      · rw [if_pos c]
      · rw [if_neg c]; exact h j (by omega))
    refine ⟨T, ?_, t2, (aFr.rf.A 47 _ (by decide)).tr t3⟩
    show X11_init_42_c43_b158 N (X11_init_42_c43_l158 N f) _ _ = _
    unfold X11_init_42_c43_b158
    rw [if_neg (by exact iNLE 20 i (by omega)), if_pos (m_ix (show i < 20 by omega) (by decide)), nI_clamp (by omega), nI_1]
    exact t1
theorem init_c {N : Nat} (hN : 30 ≤ N) (S : aSt) : ∃ T, X10_init_0_c1 N S = some T ∧ (T.1 1 0 = 0 ∧ T.1 8 0 = 0 ∧ T.1 8 1 = 1 ∧ T.1 8 2 = 1 ∧ T.1 8 3 = 1 ∧ T.1 8 4 = 0) ∧ (T.1 22 4 = 0 ∧ T.1 25 4 = 1 ∧ T.1 0 10 = -1 ∧ T.1 38 0 = 0) ∧ (∀ h, h < 20 → T.2.2 10 h = 1) ∧ (∀ h, T.2.2 11 h = 0) ∧ ∀ h, T.2.2 13 h = 0 := by
  unfold X10_init_0_c1 X2_init_8_c9 J7_fill_53178_10_c14
  simp only [aLet]
  obtain ⟨T, t1, t2, t3⟩ := c_fill10 (N := N) 20 0 N (aClr (aClr (aClr (aClr (aClr (aI (aI (aI (aClr (X9_init_1_c2 (aClr S 1)) 8) 8 1 (1 : Int32)) 8 2 (1 : Int32)) 8 3 (1 : Int32)) 9) 10) 11) 12) 13) (by omega) (by omega) (fun h hh => by omega)
  have t1' : J7_fill_53178_10_c14_l5 N N (1 : Int32) (0 : Int32) (20 : Int32) (aClr (aClr (aClr (aClr (aClr (aI (aI (aI (aClr (X9_init_1_c2 (aClr S 1)) 8) 8 1 (1 : Int32)) 8 2 (1 : Int32)) 8 3 (1 : Int32)) 9) 10) 11) 12) 13) = some T := t1
  rw [t1']
  simp only [Option.bind_some]
  refine ⟨_, rfl, ⟨?_, ?_, ?_, ?_, ?_, ?_⟩, ⟨?_, ?_, ?_, ?_⟩, fun h hh => ?_, fun h => ?_, fun h => ?_⟩
  · have e : T.1 1 0 = _ := t3.1 1 0 (by decide)
    simp [X8_init_14_8_c15, X7_init_22_8_14_c23, X7_init_25_8_14_c26, X5_init_28_14_c29, X5_init_29_14_c30, X3_init_30_8_14_22_c31, X3_init_34_8_14_25_c35, X4_init_38_8_c39, X9_init_1_c2, gI, gC1, gIa, e]
  · have e : T.1 8 0 = _ := t3.1 8 0 (by decide)
    simp [X8_init_14_8_c15, X7_init_22_8_14_c23, X7_init_25_8_14_c26, X5_init_28_14_c29, X5_init_29_14_c30, X3_init_30_8_14_22_c31, X3_init_34_8_14_25_c35, X4_init_38_8_c39, X9_init_1_c2, gI, gC1, gIa, e]
  · have e : T.1 8 1 = _ := t3.1 8 1 (by decide)
    simp [X8_init_14_8_c15, X7_init_22_8_14_c23, X7_init_25_8_14_c26, X5_init_28_14_c29, X5_init_29_14_c30, X3_init_30_8_14_22_c31, X3_init_34_8_14_25_c35, X4_init_38_8_c39, X9_init_1_c2, gI, gC1, gIa, e]
  · have e : T.1 8 2 = _ := t3.1 8 2 (by decide)
    simp [X8_init_14_8_c15, X7_init_22_8_14_c23, X7_init_25_8_14_c26, X5_init_28_14_c29, X5_init_29_14_c30, X3_init_30_8_14_22_c31, X3_init_34_8_14_25_c35, X4_init_38_8_c39, X9_init_1_c2, gI, gC1, gIa, e]
  · have e : T.1 8 3 = _ := t3.1 8 3 (by decide)
    simp [X8_init_14_8_c15, X7_init_22_8_14_c23, X7_init_25_8_14_c26, X5_init_28_14_c29, X5_init_29_14_c30, X3_init_30_8_14_22_c31, X3_init_34_8_14_25_c35, X4_init_38_8_c39, X9_init_1_c2, gI, gC1, gIa, e]
  · have e : T.1 8 4 = _ := t3.1 8 4 (by decide)
    simp [X8_init_14_8_c15, X7_init_22_8_14_c23, X7_init_25_8_14_c26, X5_init_28_14_c29, X5_init_29_14_c30, X3_init_30_8_14_22_c31, X3_init_34_8_14_25_c35, X4_init_38_8_c39, X9_init_1_c2, gI, gC1, gIa, e]
  · simp [X8_init_14_8_c15, X7_init_22_8_14_c23, X7_init_25_8_14_c26, X5_init_28_14_c29, X5_init_29_14_c30, X3_init_30_8_14_22_c31, X3_init_34_8_14_25_c35, X4_init_38_8_c39, X9_init_1_c2, gI, gC1]
  · simp [X8_init_14_8_c15, X7_init_22_8_14_c23, X7_init_25_8_14_c26, X5_init_28_14_c29, X5_init_29_14_c30, X3_init_30_8_14_22_c31, X3_init_34_8_14_25_c35, X4_init_38_8_c39, X9_init_1_c2, gI, gC1]
  · simp [X8_init_14_8_c15, X7_init_22_8_14_c23, X7_init_25_8_14_c26, X5_init_28_14_c29, X5_init_29_14_c30, X3_init_30_8_14_22_c31, X3_init_34_8_14_25_c35, X4_init_38_8_c39, X9_init_1_c2, gI, gC1]
  · simp [X8_init_14_8_c15, X7_init_22_8_14_c23, X7_init_25_8_14_c26, X5_init_28_14_c29, X5_init_29_14_c30, X3_init_30_8_14_22_c31, X3_init_34_8_14_25_c35, X4_init_38_8_c39, X9_init_1_c2, gI, gC1]
  · have e := t2 h hh
    simp [X8_init_14_8_c15, X7_init_22_8_14_c23, X7_init_25_8_14_c26, X5_init_28_14_c29, X5_init_29_14_c30, X3_init_30_8_14_22_c31, X3_init_34_8_14_25_c35, X4_init_38_8_c39, X9_init_1_c2, gIa, gC2, e]
  · have e : T.2.2 11 h = _ := congrFun (t3.2.2 11 (by decide)) h
    simp [X8_init_14_8_c15, X7_init_22_8_14_c23, X7_init_25_8_14_c26, X5_init_28_14_c29, X5_init_29_14_c30, X3_init_30_8_14_22_c31, X3_init_34_8_14_25_c35, X4_init_38_8_c39, X9_init_1_c2, gIa, gC2, e]
  · have e : T.2.2 13 h = _ := congrFun (t3.2.2 13 (by decide)) h
    simp [X8_init_14_8_c15, X7_init_22_8_14_c23, X7_init_25_8_14_c26, X5_init_28_14_c29, X5_init_29_14_c30, X3_init_30_8_14_22_c31, X3_init_34_8_14_25_c35, X4_init_38_8_c39, X9_init_1_c2, gIa, gC2, e]
theorem init_r {N : Nat} (hN : 30 ≤ N) (S : aSt) : ∃ T, X11_init_42_c43 N (aClr S 42) = some T ∧ (T.1 42 1 = 0 ∧ T.1 42 5 = 0 ∧ T.1 42 7 = 0 ∧ T.1 42 10 = 1 ∧ T.1 42 11 = 1 ∧ T.1 42 12 = 1 ∧ T.1 42 14 = 0) ∧ (∀ h, h < 20 → T.2.2 47 h = 1) ∧ (∀ h, T.2.2 48 h = 0) ∧ (∀ k j, k < 42 → T.1 k j = S.1 k j) ∧ ∀ k j, k < 42 → T.2.2 k j = S.2.2 k j := by
  unfold X11_init_42_c43
  generalize hU : (aClr (aClr (aClr (aClr (aClr (aClr (aClr (aClr (aClr (aClr (aI (aI (aI (aClr (aClr (aClr (aClr (aClr (aClr (aClr S 42) 43) 44) 45) 46) 47) 48) 42 10 (1 : Int32)) 42 11 (1 : Int32)) 42 12 (1 : Int32)) 49) 50) 51) 52) 53) 54) 55) 56) 57) 58) = U
  obtain ⟨T, t1, t2, t3⟩ := r_fill47 (N := N) 20 0 N U (by omega) (by omega) (fun h hh => by omega)
  refine ⟨T, t1, ⟨?_, ?_, ?_, ?_, ?_, ?_, ?_⟩, t2, fun h => ?_, fun k j hk => ?_, fun k j hk => ?_⟩
  · rw [t3.1 42 1 (by decide), ← hU]
    simp [gI, gC1]
  · rw [t3.1 42 5 (by decide), ← hU]
    simp [gI, gC1]
  · rw [t3.1 42 7 (by decide), ← hU]
    simp [gI, gC1]
  · rw [t3.1 42 10 (by decide), ← hU]
    simp [gI, gC1]
  · rw [t3.1 42 11 (by decide), ← hU]
    simp [gI, gC1]
  · rw [t3.1 42 12 (by decide), ← hU]
    simp [gI, gC1]
  · rw [t3.1 42 14 (by decide), ← hU]
    simp [gI, gC1]
  · rw [t3.2.2 48 (by decide), ← hU]
    simp [gIa, gC2]
  · rw [t3.1 k j (fun z => by cases z), ← hU]
    have hne : ∀ m, 42 ≤ m → ¬ k = m := by omega
    simp [gI, gC1, hne]
  · have h47 : k ∉ [47] := by
      intro z
      rw [List.mem_singleton] at z
      omega
    rw [t3.2.2 k h47, ← hU]
    have hne : ∀ m, 42 ≤ m → ¬ k = m := by omega
    simp [gIa, gC2, hne]
theorem m_init {N : Nat} (hN : 30 ≤ N) (S : aSt) : ∃ S1 S2, X10_init_0_c1 N S = some S1 ∧ X11_init_42_c43 N (aClr S1 42) = some S2 ∧ GR S2 0 := by
  obtain ⟨S1, s1, ⟨a1, a2, a3, a4, a5, a6⟩, ⟨b1, b2, b3, b4⟩, c1, c2, c3⟩ := init_c hN S
  obtain ⟨S2, r1, ⟨d1, d2, d3, d4, d5, d6, d7⟩, e1, e2, e3, e4⟩ := init_r hN S1
  have i1 : is99 1 := ⟨1, by decide, rfl⟩
  have i0 : is99 0 := ⟨0, by decide, rfl⟩
  refine ⟨S1, S2, s1, r1, ⟨0, by decide, ?_, ?_, fun i hi => by omega⟩, ⟨0, by decide, ?_, ?_, fun i hi => by omega, fun j hj => by omega⟩, ⟨fun i hi => ?_, fun i hi => ?_, ⟨?_, ?_⟩, ⟨?_, ?_⟩, ?_, ?_⟩, ⟨0, by decide, ?_, fun p hp => ⟨?_, fun z => by simp at z⟩⟩, ⟨0, by decide, ?_, ?_, fun i hi => by omega⟩, ?_, ?_, ?_, ?_, fun z => ?_⟩
  · rw [e3 1 0 (by decide), a1]; rfl
  · rw [d1]; rfl
  · rw [e3 8 0 (by decide), a2]; rfl
  · rw [d2]; rfl
  · rw [e4 10 i (by decide), c1 i hi, e1 i hi]; exact ⟨rfl, i1⟩
  · rw [e4 11 i (by decide), c2, e2]; exact ⟨rfl, i0⟩
  · rw [e3 8 1 (by decide), a3, d4]
  · rw [e3 8 1 (by decide), a3]; exact i1
  · rw [e3 8 2 (by decide), a4, d5]
  · rw [e3 8 2 (by decide), a4]; exact i1
  · rw [e3 8 3 (by decide), a5, d6]
  · rw [e3 8 3 (by decide), a5]; exact i1
  · rw [d3]; rfl
  · rw [e4 13 p (by decide), c3]; simp
  · rw [e3 38 0 (by decide), b4]; rfl
  · rw [d7]; rfl
  · rw [e3 22 4 (by decide), b1]
  · rw [e3 25 4 (by decide), b2]
  · rw [e3 8 4 (by decide), a6]; rfl
  · rw [e3 0 10 (by decide), b3]; exact Or.inl rfl
  · rw [e3 0 10 (by decide), b3] at z
    exact absurd z (by decide)
