/-! tokens: the reference's -/
theorem X11_sort_eq (x : Int32) : X11_sort x = if isR (sC x) = true then sC x else 0 := by
  by_cases h32 : x = 32
  · subst h32; decide
  · unfold X11_sort X11_sort_b16 sC
    rw [if_neg h32]
    by_cases c1 : x < 97
    · rw [if_pos c1, if_pos c1]
      by_cases c2 : x < 48
      · rw [if_pos c2, if_pos c2]; rfl
      · rw [if_neg c2, if_neg c2]
        by_cases c3 : 57 < x
        · rw [if_pos c3, if_pos c3]; rfl
        · rw [if_neg c3, if_neg c3]; rfl
    · rw [if_neg c1, if_neg c1]
      by_cases c4 : 122 < x
      · rw [if_pos c4, if_pos c4]
        by_cases c2 : x < 48
        · rw [if_pos c2, if_pos c2]; rfl
        · rw [if_neg c2, if_neg c2]
          by_cases c3 : 57 < x
          · rw [if_pos c3, if_pos c3]; rfl
          · rw [if_neg c3, if_neg c3]; rfl
      · rw [if_neg c4, if_neg c4]; rfl
theorem isR_v {s : Int32} (h : isR s = true) : s = 1 ∨ s = 2 := by
  unfold isR at h
  rw [Bool.or_eq_true, decide_eq_true_eq, decide_eq_true_eq] at h
  exact h
def tkR (T : aSt) (b : Nat → Int32) (t p : Nat) : Prop := T.1 42 1 = nI t ∧ T.1 42 16 = nI p ∧ T.1 42 17 = nI (en b t p) ∧ T.1 42 15 = nI (en b t p) ∧ ∀ i, i < t → T.2.2 43 i = b i
theorem r_blank {N t : Nat} {b : Nat → Int32} (ht : t ≤ 200) : ∀ (r a f : Nat) (T : aSt), a + r = t → r < f → T.1 42 15 = nI a → T.1 42 1 = nI t → (∀ i, i < t → T.2.2 43 i = b i) → ∃ U, X11_token_42_l0 N f T = X11_token_42_b38 N U ∧ U.1 42 15 = nI (bl b r a) ∧ aFr ([(42, 15)], [], []) T U := by
  intro r
  induction r with
  | zero =>
    intro a f T ha hf h15 h1 hb
    obtain ⟨f, rfl⟩ : ∃ q, f = q + 1 := ⟨f - 1, by omega⟩
    refine ⟨T, ?_, h15, aFr.rf⟩
    show X11_token_42_b0 N (X11_token_42_l0 N f) T = _
    unfold X11_token_42_b0
    rw [h1, h15, if_pos (by exact iLE t a (by omega))]
  | succ r ih =>
    intro a f T ha hf h15 h1 hb
    obtain ⟨f, rfl⟩ : ∃ q, f = q + 1 := ⟨f - 1, by omega⟩
    show ∃ U, X11_token_42_b0 N (X11_token_42_l0 N f) T = _ ∧ _
    unfold X11_token_42_b0
    rw [h1, h15, if_neg (by exact iNLE t a (by omega)), if_pos (m_ix (show a < 200 by omega) (by decide)), nI_clamp (by omega), hb a (by omega), nI_1, bl]
    by_cases c : b a = 32
    · rw [if_pos c, if_pos c]
      obtain ⟨U, u1, u2, u3⟩ := ih (a + 1) f (aI T 42 15 (nI (a + 1))) (by omega) (by omega) (by rw [gI, if_pos ⟨rfl, rfl⟩]) (by rw [gI, if_neg (by decide)]; exact h1) (by rw [gIa]; exact hb)
      exact ⟨U, u1, u2, (aFr.rf.I 42 15 _ (by decide)).tr u3⟩
    · rw [if_neg c, if_neg c]
      exact ⟨T, rfl, h15, aFr.rf⟩
theorem r_row71 {N t p : Nat} {b : Nat → Int32} (ht : t ≤ 200) (hp : p < t) (hR : isR (sC (b p)) = true) : ∀ (r j f : Nat) (U : aSt), j + r = t → r < f → U.1 42 15 = nI j → U.1 42 16 = nI p → U.1 42 1 = nI t → (∀ i, i < t → U.2.2 43 i = b i) → ∃ V, X11_token_42_l71 N f U = some V ∧ V.1 42 15 = nI (eL b (sC (b p)) r j) ∧ V.1 42 17 = nI (eL b (sC (b p)) r j) ∧ aFr ([(42, 15), (42, 17)], [], []) U V := by
  have hn0 : ¬ sC (b p) ≤ 0 := by
    rcases isR_v hR with h | h <;> rw [h] <;> decide
  intro r
  induction r with
  | zero =>
    intro j f U hj hf h15 h16 h1 hb
    obtain ⟨f, rfl⟩ : ∃ q, f = q + 1 := ⟨f - 1, by omega⟩
    refine ⟨aI U 42 17 (nI j), ?_, by rw [gI, if_neg (by decide)]; exact h15, by rw [gI, if_pos ⟨rfl, rfl⟩]; rfl, aFr.rf.I 42 17 _ (by decide)⟩
    show X11_token_42_b71 N (X11_token_42_l71 N f) U = _
    unfold X11_token_42_b71 X11_token_42_b137
    rw [h1, h15, if_pos (by exact iLE t j (by omega))]
  | succ r ih =>
    intro j f U hj hf h15 h16 h1 hb
    obtain ⟨f, rfl⟩ : ∃ q, f = q + 1 := ⟨f - 1, by omega⟩
    show ∃ V, X11_token_42_b71 N (X11_token_42_l71 N f) U = _ ∧ _
    unfold X11_token_42_b71 X11_token_42_b137
    simp only [aLet]
    rw [h1, h15, h16, if_neg (by exact iNLE t j (by omega)), if_pos (m_ix (show p < 200 by omega) (by decide)), if_pos (m_ix (show j < 200 by omega) (by decide)), if_pos (m_ix (show p < 200 by omega) (by decide)), nI_clamp (by omega), nI_clamp (by omega), hb p hp, hb j (by omega), X11_sort_eq (b p), if_pos hR, if_neg hn0, nI_1, eL]
    have hc : X11_sort (b j) = sC (b p) ↔ sC (b j) = sC (b p) := by
      rw [X11_sort_eq]
      by_cases c : isR (sC (b j)) = true
      · rw [if_pos c]
      · rw [if_neg c]
        constructor
        · intro z; exact absurd (z ▸ Int32.le_refl _) hn0
        · intro z; rw [z] at c; exact absurd hR c
    by_cases c : sC (b j) = sC (b p)
    · rw [if_pos (hc.mpr c), if_pos c]
      obtain ⟨V, v1, v2, v3, v4⟩ := ih (j + 1) f (aI U 42 15 (nI (j + 1))) (by omega) (by omega) (by rw [gI, if_pos ⟨rfl, rfl⟩]) (by rw [gI, if_neg (by decide)]; exact h16) (by rw [gI, if_neg (by decide)]; exact h1) (by rw [gIa]; exact hb)
      exact ⟨V, v1, v2, v3, (aFr.rf.I 42 15 _ (by decide)).tr v4⟩
    · rw [if_neg (fun z => c (hc.mp z)), if_neg c]
      exact ⟨_, rfl, by rw [gI, if_neg (by decide)]; exact h15, by rw [gI, if_pos ⟨rfl, rfl⟩], aFr.rf.I 42 17 _ (by decide)⟩
theorem r_token {N t a : Nat} {b : Nat → Int32} {T : aSt} (hN : 300 ≤ N) (ht : t ≤ 200) (ha : a ≤ t) (h15 : T.1 42 15 = nI a) (h1 : T.1 42 1 = nI t) (hb : ∀ i, i < t → T.2.2 43 i = b i) : ∃ V, X11_token_42 N T = some V ∧ tkR V b t (nx b t a) := by
  have e0 : X11_token_42 N T = X11_token_42_l0 N (N + 1) T := rfl
  obtain ⟨U, u1, u2, u3⟩ := r_blank (N := N) ht (t - a) a (N + 1) T (by omega) (by omega) h15 h1 hb
  have hx := nx_le (b := b) ha
  rw [e0, u1]
  have u4 : U.1 42 15 = nI (nx b t a) := u2
  have u5 : U.1 42 1 = nI t := by rw [u3.1 42 1 (by decide)]; exact h1
  have u6 : ∀ i, i < t → U.2.2 43 i = b i := by rw [u3.2.2 43 (by decide)]; exact hb
  generalize nx b t a = p at hx u4
  unfold X11_token_42_b38 X11_token_42_b67
  rw [u5, u4]
  obtain ⟨g, rfl⟩ : ∃ q, N = q + 1 := ⟨N - 1, by omega⟩
  have z0 : nI p + (0 : Int32) = nI p := nI_add p 0
  by_cases c : t ≤ p
  · rw [if_pos (by exact iLE t p c), z0]
    have hen : en b t p = p := by unfold en; rw [if_neg (by omega)]
    refine ⟨aI (aI (aI U 42 16 (nI p)) 42 15 (nI p)) 42 17 (nI p), ?_, ?_⟩
    · show X11_token_42_b71 (g + 1) (X11_token_42_l71 (g + 1) g) _ = _
      unfold X11_token_42_b71 X11_token_42_b137
      have e15 : (aI (aI U 42 16 (nI p)) 42 15 (nI p)).1 42 15 = nI p := by rw [gI, if_pos ⟨rfl, rfl⟩]
      have e1 : (aI (aI U 42 16 (nI p)) 42 15 (nI p)).1 42 1 = nI t := by rw [gI, if_neg (by decide), gI, if_neg (by decide)]; exact u5
      rw [e1, e15, if_pos (by exact iLE t p c)]
    · unfold tkR
      rw [hen]
      refine ⟨?_, ?_, ?_, ?_, u6⟩
      · rw [gI, if_neg (by decide), gI, if_neg (by decide), gI, if_neg (by decide)]; exact u5
      · rw [gI, if_neg (by decide), gI, if_neg (by decide), gI, if_pos ⟨rfl, rfl⟩]
      · rw [gI, if_pos ⟨rfl, rfl⟩]
      · rw [gI, if_neg (by decide), gI, if_pos ⟨rfl, rfl⟩]
  · rw [if_neg (by exact iNLE t p (by omega)), nI_1]
    have e15 : (aI (aI U 42 16 (nI p)) 42 15 (nI (p + 1))).1 42 15 = nI (p + 1) := by rw [gI, if_pos ⟨rfl, rfl⟩]
    have e16 : (aI (aI U 42 16 (nI p)) 42 15 (nI (p + 1))).1 42 16 = nI p := by rw [gI, if_neg (by decide), gI, if_pos ⟨rfl, rfl⟩]
    have e1 : (aI (aI U 42 16 (nI p)) 42 15 (nI (p + 1))).1 42 1 = nI t := by rw [gI, if_neg (by decide), gI, if_neg (by decide)]; exact u5
    have eb : ∀ i, i < t → (aI (aI U 42 16 (nI p)) 42 15 (nI (p + 1))).2.2 43 i = b i := u6
    generalize aI (aI U 42 16 (nI p)) 42 15 (nI (p + 1)) = W at e15 e16 e1 eb
    by_cases cR : isR (sC (b p)) = true
    · have hen : en b t p = eL b (sC (b p)) (t - (p + 1)) (p + 1) := by unfold en; rw [if_pos (by omega), if_pos cR]
      obtain ⟨V, v1, v2, v3, v4⟩ := r_row71 (N := g + 1) ht (show p < t by omega) cR (t - (p + 1)) (p + 1) (g + 1) W (by omega) (by omega) e15 e16 e1 eb
      refine ⟨V, v1, ?_⟩
      unfold tkR
      rw [hen, v4.1 42 1 (by decide), v4.1 42 16 (by decide), v4.2.2 43 (by decide)]
      exact ⟨e1, e16, v3, v2, eb⟩
    · have hen : en b t p = p + 1 := by unfold en; rw [if_pos (by omega), if_neg cR]
      refine ⟨aI W 42 17 (nI (p + 1)), ?_, ?_⟩
      · show X11_token_42_b71 (g + 1) (X11_token_42_l71 (g + 1) g) _ = _
        unfold X11_token_42_b71 X11_token_42_b137
        simp only [aLet]
        rw [e1, e15, e16, if_pos (m_ix (show p < 200 by omega) (by decide)), nI_clamp (show p < 2 ^ 31 by omega), eb p (by omega), X11_sort_eq (b p), if_neg cR, if_pos (Int32.le_refl _), ite_self]
      · unfold tkR
        rw [hen]
        refine ⟨?_, ?_, ?_, ?_, eb⟩
        · rw [gI, if_neg (by decide)]; exact e1
        · rw [gI, if_neg (by decide)]; exact e16
        · rw [gI, if_pos ⟨rfl, rfl⟩]
        · rw [gI, if_neg (by decide)]; exact e15
def isN (b : Nat → Int32) (t p : Nat) : Prop := p < t ∧ sC (b p) = 2 ∧ en b t p - p ≤ 6
theorem r_isNumber {N t p : Nat} {b : Nat → Int32} {T : aSt} (ht : t ≤ 200) (hp : p ≤ t) (h : tkR T b t p) : (isN b t p ∧ X11_isNumber_42 N T = some 1) ∨ (¬ isN b t p ∧ X11_isNumber_42 N T = some 0) := by
  obtain ⟨h1, h16, h17, h15, hb⟩ := h
  have he := en_le (b := b) hp
  unfold X11_isNumber_42
  simp only [aLet]
  rw [h1, h16, h17, pk_sub he.1]
  by_cases c : t ≤ p
  · rw [if_pos (by exact iLE t p c)]
    exact Or.inr ⟨fun z => absurd z.1 (by omega), rfl⟩
  · rw [if_neg (by exact iNLE t p (by omega)), if_pos (m_ix (show p < 200 by omega) (by decide)), nI_clamp (by omega), hb p (by omega), X11_sort_eq]
    by_cases c2 : sC (b p) = 2
    · have hR : isR (sC (b p)) = true := by rw [c2]; rfl
      rw [if_pos hR, if_pos c2]
      by_cases c6 : en b t p - p ≤ 6
      · rw [if_neg (by exact iNLT 6 (en b t p - p) c6)]
        exact Or.inl ⟨⟨by omega, c2, c6⟩, rfl⟩
      · rw [if_pos (by exact iLT 6 (en b t p - p) (by omega))]
        exact Or.inr ⟨fun z => c6 z.2.2, rfl⟩
    · have hx : ¬ (if isR (sC (b p)) = true then sC (b p) else 0) = (2 : Int32) := by
        split
        · exact c2
        · decide
      rw [if_neg hx]
      exact Or.inr ⟨fun z => c2 z.2.1, rfl⟩
theorem r_value {N t p : Nat} {b : Nat → Int32} {T : aSt} (hN : 300 ≤ N) (ht : t ≤ 200) (hp : p ≤ t) (h : tkR T b t p) : X11_value_42 N T = some (vL b (en b t p - p) p 0) := by
  obtain ⟨h1, h16, h17, h15, hb⟩ := h
  have he := en_le (b := b) hp
  have lp : ∀ (r j f : Nat) (v : Int32), j + r = en b t p → r < f → X11_value_42_l7 N T f v (nI j) = some (vL b r j v) := by
    intro r
    induction r with
    | zero =>
      intro j f v hj hf
      obtain ⟨f, rfl⟩ : ∃ q, f = q + 1 := ⟨f - 1, by omega⟩
      show X11_value_42_b7 N T (X11_value_42_l7 N T f) _ _ = _
      unfold X11_value_42_b7
      rw [h17, if_pos (by exact iLE (en b t p) j (by omega))]
      rfl
    | succ r ih =>
      intro j f v hj hf
      obtain ⟨f, rfl⟩ : ∃ q, f = q + 1 := ⟨f - 1, by omega⟩
      show X11_value_42_b7 N T (X11_value_42_l7 N T f) _ _ = _
      unfold X11_value_42_b7
      rw [h17, if_neg (by exact iNLE (en b t p) j (by omega)), if_pos (m_ix (show j < 200 by omega) (by decide)), nI_clamp (by omega), hb j (by omega), nI_1, Int32.mul_comm 10 v]
      exact ih (j + 1) f _ (by omega) (by omega)
  unfold X11_value_42
  rw [h16]
  exact lp (en b t p - p) p N 0 (by omega) (by omega)
theorem tc_1 {b : Nat → Int32} {t p : Nat} : tc b t p = 1 ↔ p < t ∧ sC (b p) = 2 := by
  have hw := wk_le b p (en b t p)
  unfold tc
  by_cases c : p < t
  · rw [if_pos c]
    by_cases c1 : sC (b p) = 1
    · rw [if_pos c1]
      constructor
      · intro z
        exfalso
        revert z
        split
        · decide
        · exact iNE (10 + wk b p (en b t p)) 1 (by omega)
      · intro z
        rw [c1] at z
        exact absurd z.2 (by decide)
    · rw [if_neg c1]
      by_cases c2 : sC (b p) = 2
      · rw [if_pos c2]; exact ⟨fun _ => ⟨c, c2⟩, fun _ => rfl⟩
      · rw [if_neg c2]
        constructor
        · intro z
          exfalso
          revert z
          split <;> decide
        · intro z; exact absurd z.2 c2
  · rw [if_neg c]
    exact ⟨fun z => absurd z (by decide), fun z => absurd z.1 c⟩
theorem X6_at_3_eq {S : aSt} {i : Nat} (h : i < 201) : X6_at_3 (nI i) S = S.2.2 3 i := by
  unfold X6_at_3
  rw [if_neg (nI_pos (by omega)), if_neg (by exact iNLE 201 i h), nI_clamp (by omega)]
theorem X6_at_4_eq {S : aSt} {i : Nat} (h : i < 201) : X6_at_4 (nI i) S = S.2.2 4 i := by
  unfold X6_at_4
  rw [if_neg (nI_pos (by omega)), if_neg (by exact iNLE 201 i h), nI_clamp (by omega)]
theorem X6_at_5_eq {S : aSt} {i : Nat} (h : i < 201) : X6_at_5 (nI i) S = S.2.2 5 i := by
  unfold X6_at_5
  rw [if_neg (nI_pos (by omega)), if_neg (by exact iNLE 201 i h), nI_clamp (by omega)]
theorem X6_set_7_eq {S : aSt} {i : Nat} {v : Int32} (h : i < 40) : X6_set_7 (nI i) v S = aA S 7 (upd (S.2.2 7) i v) := by
  unfold X6_set_7
  rw [if_neg (nI_pos (by omega)), if_neg (by exact iNLE 40 i h), nI_clamp (by omega)]
theorem i4 (n i : Nat) : nI n * (4 : Int32) + nI i = nI (4 * n + i) := by
  show nI n * nI 4 + nI i = _
  rw [pk_mul, nI_add, Nat.mul_comm]
/-- where both stand in the text: at token k, n lines read -/
def LK (b : Nat → Int32) (t M n k : Nat) (S T : aSt) : Prop := TS S b t M ∧ k ≤ M ∧ S.1 1 8 = nI k ∧ tkR T b t (pos b t k) ∧ T.1 42 3 = nI n
/-- number j of line n is v in both -/
def NM2 (n : Nat) (S T : aSt) (j : Nat) (v w : Int32) : Prop := S.2.2 7 (4 * n + j) = v ∧ T.2.2 44 (5 * n + 1 + j) = w
def NM (n : Nat) (S T : aSt) (j : Nat) (v : Int32) : Prop := NM2 n S T j v v
/-- what was read before line n stays -/
def AG (n : Nat) (S T S' T' : aSt) : Prop := S'.2.2 6 = S.2.2 6 ∧ S'.1 1 1 = S.1 1 1 ∧ (∀ i, i < 4 * n → S'.2.2 7 i = S.2.2 7 i) ∧ ∀ i, i < 5 * n + 1 → T'.2.2 44 i = T.2.2 44 i
theorem AG.rf {n : Nat} {S T : aSt} : AG n S T S T := ⟨rfl, rfl, fun _ _ => rfl, fun _ _ => rfl⟩
theorem AG.tr {n : Nat} {S T S' T' S'' T'' : aSt} (h : AG n S T S' T') (h2 : AG n S' T' S'' T'') : AG n S T S'' T'' := ⟨h2.1.trans h.1, h2.2.1.trans h.2.1, fun i hi => (h2.2.2.1 i hi).trans (h.2.2.1 i hi), fun i hi => (h2.2.2.2 i hi).trans (h.2.2.2 i hi)⟩
theorem TS.A {S : aSt} {b : Nat → Int32} {t M k : Nat} {f : Nat → Int32} (h : TS S b t M) (hk : k ≠ 3 ∧ k ≠ 4 ∧ k ≠ 5) : TS (aA S k f) b t M := by
  obtain ⟨h1, h2, h3, h4⟩ := h
  refine ⟨h1, h2, h3, fun m hm => ?_⟩
  rw [gA, if_neg (fun z => hk.2.1 z.symm), gA, if_neg (fun z => hk.1 z.symm), gA, if_neg (fun z => hk.2.2 z.symm)]
  exact h4 m hm
theorem TS.I {S : aSt} {b : Nat → Int32} {t M k j : Nat} {v : Int32} (h : TS S b t M) : TS (aI S k j v) b t M := h
theorem m_num {N t M k n i : Nat} {b : Nat → Int32} {S T : aSt} {lo hi : Int32} (hN : 300 ≤ N) (ht : t ≤ 200) (h : LK b t M n k S T) (hn : n < 10) (hi4 : i < 4) (hlo : (0 : Int32) ≤ lo) : (X9_takeNumber_1 (nI n) (nI i) lo hi S = (0, S) ∧ X11_reads_42 N (nI i) lo hi T = some (0, T)) ∨ ∃ v S' T', lo ≤ v ∧ v ≤ hi ∧ X9_takeNumber_1 (nI n) (nI i) lo hi S = (1, S') ∧ X11_reads_42 N (nI i) lo hi T = some (1, T') ∧ LK b t M n (k + 1) S' T' ∧ AG n S T S' T' ∧ NM n S' T' i v ∧ ∀ j w w', j ≠ i → NM2 n S T j w w' → NM2 n S' T' j w w' := by
  obtain ⟨hTS, hk, hS, hT, h3⟩ := h
  have hTS' := hTS
  obtain ⟨m1, m2, m3, m4⟩ := hTS
  have hp := pos_le b t k
  have tk := m4 k (by omega)
  unfold X9_takeNumber_1 X11_reads_42
  simp only [aLet]
  rw [hS, X6_at_5_eq (by omega), X6_at_3_eq (by omega), tk.2.1, tk.2.2, i4, h3]
  have fail : ¬ (isN b t (pos b t k) ∧ lo ≤ vc b t (pos b t k) ∧ vc b t (pos b t k) ≤ hi) → (if tc b t (pos b t k) = 1 then (if vc b t (pos b t k) < lo then ((0 : Int32), S) else if vc b t (pos b t k) ≤ hi then (1, aI (X6_set_7 (nI (4 * n + i)) (vc b t (pos b t k)) S) 1 8 ((X6_set_7 (nI (4 * n + i)) (vc b t (pos b t k)) S).1 1 8 + 1)) else (0, S)) else (0, S)) = (0, S) := by
    intro hn
    by_cases c1 : tc b t (pos b t k) = 1
    · rw [if_pos c1]
      by_cases c2 : vc b t (pos b t k) < lo
      · rw [if_pos c2]
      · rw [if_neg c2]
        by_cases c3 : vc b t (pos b t k) ≤ hi
        · exfalso
          have q := tc_1.mp c1
          apply hn
          refine ⟨⟨q.1, q.2, ?_⟩, Int32.not_lt.mp c2, c3⟩
          apply Classical.byContradiction
          intro c6
          have e : vc b t (pos b t k) = -1 := by
            unfold vc
            rw [if_neg (fun z => c6 z.2.2)]
          rw [e] at c2
          exact c2 (Int32.lt_of_lt_of_le (by decide) hlo)
        · rw [if_neg c3]
    · rw [if_neg c1]
  rcases r_isNumber (N := N) ht hp hT with ⟨n1, n2⟩ | ⟨n1, n2⟩
  · have ev : vc b t (pos b t k) = vL b (en b t (pos b t k) - pos b t k) (pos b t k) 0 := by
      unfold vc
      exact if_pos n1
    rw [n2, r_value hN ht hp hT, ← ev]
    simp only [Option.bind_some]
    rw [if_neg n10, m_in]
    by_cases c : lo ≤ vc b t (pos b t k) ∧ vc b t (pos b t k) ≤ hi
    · right
      have hkM : k < M := by
        rcases Nat.lt_or_ge k M with q | q
        · exact q
        · have : k = M := by omega
          have q1 := n1.1
          rw [this, m2] at q1
          omega
      have e1 : ((5 : Int32) * nI n + (1 : Int32)) + nI i = nI (5 * n + 1 + i) := by
        rw [m_50, nI_1, nI_add]
      rw [if_pos (tc_1.mpr ⟨n1.1, n1.2.1⟩), if_neg (Int32.not_lt.mpr c.1), if_pos c.2, if_pos c, if_neg n10, e1, if_pos (m_ix (show 5 * n + 1 + i < 50 by omega) (by decide)), nI_clamp (by omega), X6_set_7_eq (by omega), gAi, hS, nI_1]
      obtain ⟨t1, t16, t17, t15, tb⟩ := hT
      have hen := en_le (b := b) hp
      obtain ⟨V, v1, v2⟩ := r_token (T := aA T 44 (upd (T.2.2 44) (5 * n + 1 + i) (vc b t (pos b t k)))) hN ht hen.2.1 t15 t1 (by rw [gA, if_neg (by decide)]; exact tb)
      have fV := F_X11_token_42 _ _ v1
      rw [v1]
      simp only [Option.bind_some]
      have a44 : V.2.2 44 = upd (T.2.2 44) (5 * n + 1 + i) (vc b t (pos b t k)) := by rw [fV.2.2 44 (by decide), gA, if_pos rfl]
      refine ⟨vc b t (pos b t k), _, V, c.1, c.2, rfl, rfl, ⟨(hTS'.A (by decide)).I, by omega, by rw [gI, if_pos ⟨rfl, rfl⟩], v2, by rw [fV.1 42 3 (by decide)]; exact h3⟩, ⟨?_, ?_, ?_, ?_⟩, ⟨?_, ?_⟩, ?_⟩
      · rw [gIa, gA, if_neg (by decide)]
      · rw [gI, if_neg (by decide), gAi]
      · intro j hj
        rw [gIa, gA, if_pos rfl, gU, if_neg (by omega)]
      · intro j hj
        rw [a44, gU, if_neg (by omega)]
      · rw [gIa, gA, if_pos rfl, gU, if_pos rfl]
      · rw [a44, gU, if_pos rfl]
      · intro j w w' hj hw
        refine ⟨?_, ?_⟩
        · rw [gIa, gA, if_pos rfl, gU, if_neg (by omega)]; exact hw.1
        · rw [a44, gU, if_neg (by omega)]; exact hw.2
    · left
      rw [if_neg c, if_pos rfl]
      exact ⟨fail (fun z => c z.2), rfl⟩
  · left
    rw [n2]
    simp only [Option.bind_some]
    rw [if_pos trivial]
    exact ⟨fail (fun z => n1 z.1), rfl⟩
