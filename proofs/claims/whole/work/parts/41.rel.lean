/-! how the class's contents and the reference's go together -/
def is99 (x : Int32) : Prop := ∃ n : Nat, n ≤ 99 ∧ x = nI n
def isSm (x : Int32) : Prop := ∃ n : Nat, 1 ≤ n ∧ n ≤ 999999 ∧ x = nI n
def okP (P : Nat → Int32) (e : Nat) : Prop := ∀ j, j < e → (P (5 * j) = 0 ∨ P (5 * j) = 1) ∧ isSm (P (5 * j + 1)) ∧ (∃ n : Nat, n < 8 ∧ P (5 * j + 2) = nI n) ∧ (∃ n : Nat, n < 4 ∧ P (5 * j + 3) = nI n) ∧ ∃ n : Nat, n < 6 ∧ P (5 * j + 4) = nI n
/-- the text -/
def rT (S : aSt) : Prop := ∃ t : Nat, t ≤ 200 ∧ S.1 1 0 = nI t ∧ S.1 42 1 = nI t ∧ ∀ i, i < t → S.2.2 2 i = S.2.2 43 i
/-- the entries -/
def rE (S : aSt) : Prop := ∃ e : Nat, e ≤ 30 ∧ S.1 8 0 = nI e ∧ S.1 42 5 = nI e ∧ (∀ i, i < 5 * e → S.2.2 9 i = S.2.2 45 i) ∧ okP (S.2.2 9) e
/-- odds -/
def rO (S : aSt) : Prop := (∀ i, i < 20 → S.2.2 10 i = S.2.2 47 i ∧ is99 (S.2.2 10 i)) ∧ (∀ i, i < 100 → S.2.2 11 i = S.2.2 48 i ∧ is99 (S.2.2 11 i)) ∧ (S.1 8 1 = S.1 42 10 ∧ is99 (S.1 8 1)) ∧ (S.1 8 2 = S.1 42 11 ∧ is99 (S.1 8 2)) ∧ (S.1 8 3 = S.1 42 12 ∧ is99 (S.1 8 3))
/-- dues -/
def rD (S : aSt) : Prop := ∃ d : Nat, d < 64 ∧ S.1 42 7 = nI d ∧ ∀ p, p < 6 → S.2.2 13 p = (if d.testBit p then 1 else 0) ∧ (d.testBit p = true → S.2.2 12 p = S.2.2 46 p)
/-- the other book -/
def rB (S : aSt) : Prop := ∃ o : Nat, o ≤ 12 ∧ S.1 38 0 = nI o ∧ S.1 42 14 = nI o ∧ ∀ i, i < o → S.2.2 39 i = S.2.2 49 i ∧ isSm (S.2.2 39 i)
theorem rT.fr {W : aWr} {S T : aSt} (h : rT S) (f : aFr W S T) (q : (1, 0) ∉ W.1 ∧ (42, 1) ∉ W.1 ∧ 2 ∉ W.2.2 ∧ 43 ∉ W.2.2) : rT T := by
  unfold rT
  rw [f.1 _ _ q.1, f.1 _ _ q.2.1, f.2.2 _ q.2.2.1, f.2.2 _ q.2.2.2]
  exact h
theorem rE.fr {W : aWr} {S T : aSt} (h : rE S) (f : aFr W S T) (q : (8, 0) ∉ W.1 ∧ (42, 5) ∉ W.1 ∧ 9 ∉ W.2.2 ∧ 45 ∉ W.2.2) : rE T := by
  unfold rE
  rw [f.1 _ _ q.1, f.1 _ _ q.2.1, f.2.2 _ q.2.2.1, f.2.2 _ q.2.2.2]
  exact h
theorem rO.fr {W : aWr} {S T : aSt} (h : rO S) (f : aFr W S T) (q : 10 ∉ W.2.2 ∧ 47 ∉ W.2.2 ∧ 11 ∉ W.2.2 ∧ 48 ∉ W.2.2 ∧ (8, 1) ∉ W.1 ∧ (42, 10) ∉ W.1 ∧ (8, 2) ∉ W.1 ∧ (42, 11) ∉ W.1 ∧ (8, 3) ∉ W.1 ∧ (42, 12) ∉ W.1) : rO T := by
  obtain ⟨q1, q2, q3, q4, q5, q6, q7, q8, q9, q10⟩ := q
  unfold rO
  rw [f.2.2 _ q1, f.2.2 _ q2, f.2.2 _ q3, f.2.2 _ q4, f.1 _ _ q5, f.1 _ _ q6, f.1 _ _ q7, f.1 _ _ q8, f.1 _ _ q9, f.1 _ _ q10]
  exact h
theorem rD.fr {W : aWr} {S T : aSt} (h : rD S) (f : aFr W S T) (q : (42, 7) ∉ W.1 ∧ 13 ∉ W.2.2 ∧ 12 ∉ W.2.2 ∧ 46 ∉ W.2.2) : rD T := by
  unfold rD
  rw [f.1 _ _ q.1, f.2.2 _ q.2.1, f.2.2 _ q.2.2.1, f.2.2 _ q.2.2.2]
  exact h
theorem rB.fr {W : aWr} {S T : aSt} (h : rB S) (f : aFr W S T) (q : (38, 0) ∉ W.1 ∧ (42, 14) ∉ W.1 ∧ 39 ∉ W.2.2 ∧ 49 ∉ W.2.2) : rB T := by
  unfold rB
  rw [f.1 _ _ q.1, f.1 _ _ q.2.1, f.2.2 _ q.2.2.1, f.2.2 _ q.2.2.2]
  exact h
/-! reading behind a write -/
theorem gI (S : aSt) (k j a b : Nat) (v : Int32) : (aI S k j v).1 a b = if a = k ∧ b = j then v else S.1 a b := by
  unfold aI
  by_cases h : a = k
  · subst h; by_cases h2 : b = j <;> simp [h2]
  · simp [h]
theorem gIa (S : aSt) (k j a : Nat) (v : Int32) : (aI S k j v).2.2 a = S.2.2 a := rfl
theorem gIl (S : aSt) (k j a : Nat) (v : Int32) : (aI S k j v).2.1 a = S.2.1 a := rfl
theorem gA (S : aSt) (k a : Nat) (f : Nat → Int32) : (aA S k f).2.2 a = if a = k then f else S.2.2 a := rfl
theorem gAi (S : aSt) (k a b : Nat) (f : Nat → Int32) : (aA S k f).1 a b = S.1 a b := rfl
theorem gAl (S : aSt) (k a b : Nat) (f : Nat → Int32) : (aA S k f).2.1 a b = S.2.1 a b := rfl
theorem gL (S : aSt) (k j a b : Nat) (v : Int64) : (aL S k j v).2.1 a b = if a = k ∧ b = j then v else S.2.1 a b := by
  unfold aL
  by_cases h : a = k
  · subst h; by_cases h2 : b = j <;> simp [h2]
  · simp [h]
theorem gLi (S : aSt) (k j a b : Nat) (v : Int64) : (aL S k j v).1 a b = S.1 a b := rfl
theorem gLa (S : aSt) (k j a : Nat) (v : Int64) : (aL S k j v).2.2 a = S.2.2 a := rfl
theorem gU (f : Nat → Int32) (k i : Nat) (x : Int32) : upd f k x i = if i = k then x else f i := rfl
/-! the reference's reads -/
theorem m_5 (j w : Nat) : (5 : Int32) * nI j + nI w = nI (5 * j + w) := by
  show nI 5 * nI j + nI w = _
  rw [pk_mul, nI_add]
theorem m_50 (j : Nat) : (5 : Int32) * nI j = nI (5 * j) := by
  show nI 5 * nI j = _
  rw [pk_mul]
theorem m_a2 (a : Nat) : nI a + (2 : Int32) = nI (a + 2) := nI_add a 2
theorem m_a3 (a : Nat) : nI a + (3 : Int32) = nI (a + 3) := nI_add a 3
theorem m_a4 (a : Nat) : nI a + (4 : Int32) = nI (a + 4) := nI_add a 4
theorem X11_outOf_l4_eq {S : aSt} {N e : Nat} {p : Int32} (hS : S.1 42 5 = nI e) (he : e ≤ 30) : ∀ (m j n : Nat), j + m = e → m < n → X11_outOf_42_l4 N S n p (outS (S.2.2 45) p j) (nI j) = some (outS (S.2.2 45) p e) := by
  intro m
  induction m with
  | zero =>
    intro j n hj hn
    obtain ⟨n, rfl⟩ : ∃ k, n = k + 1 := ⟨n - 1, by omega⟩
    show X11_outOf_42_b4 N S (X11_outOf_42_l4 N S n) p _ _ = _
    unfold X11_outOf_42_b4
    have : j = e := by omega
    subst this
    rw [hS, if_pos (Int32.le_refl _)]
  | succ m ih =>
    intro j n hj hn
    obtain ⟨n, rfl⟩ : ∃ k, n = k + 1 := ⟨n - 1, by omega⟩
    show X11_outOf_42_b4 N S (X11_outOf_42_l4 N S n) p _ _ = _
    have hi := ih (j + 1) n (by omega) (by omega)
    have h1 : ¬ S.1 42 5 ≤ nI j := by rw [hS, nI_leI (by omega) (by omega)]; omega
    unfold X11_outOf_42_b4
    rw [if_neg h1]
    simp only [X11_outOf_42_b31, X11_outOf_42_b36, X11_outOf_42_b83, m_50, m_a4, m_ix (show 5 * j + 4 < 150 by omega) (by decide), m_ix (show 5 * j + 1 < 150 by omega) (by decide), m_ix (show 5 * j < 150 by omega) (by decide), nI_clamp (show 5 * j < 2 ^ 31 by omega), nI_clamp (show 5 * j + 1 < 2 ^ 31 by omega), nI_clamp (show 5 * j + 4 < 2 ^ 31 by omega), nI_1, if_true]
    rw [outS] at hi
    have h10 : ¬ (1 : Int32) = 0 := by decide
    have hz : ∀ x : Int32, x + 0 = x := fun x => by simp
    have add : ∀ (x : Int32), (if S.2.2 45 (5 * j) = 0 then X11_outOf_42_l4 N S n p (x + S.2.2 45 (5 * j + 1)) (nI (j + 1)) else X11_outOf_42_l4 N S n p (x + -S.2.2 45 (5 * j + 1)) (nI (j + 1))) = X11_outOf_42_l4 N S n p (x + outBy (S.2.2 45) j) (nI (j + 1)) := by
      intro x
      unfold outBy
      split <;> rfl
    by_cases c1 : p = (-1 : Int32)
    · rw [if_pos c1, if_neg h10, add]
      rw [if_pos (Or.inl c1)] at hi
      exact hi
    · rw [if_neg c1]
      by_cases c2 : S.2.2 45 (5 * j + 4) = p
      · rw [if_pos c2, if_neg h10, add]
        rw [if_pos (Or.inr c2)] at hi
        exact hi
      · rw [if_neg c2, hz]
        rw [if_neg (fun z => z.elim c1 c2)] at hi
        exact hi
theorem X11_outOf_eq {S : aSt} {N e : Nat} (p : Int32) (hS : S.1 42 5 = nI e) (he : e ≤ 30) (hN : 40 ≤ N) : X11_outOf_42 N p S = some (outS (S.2.2 45) p e) :=
  X11_outOf_l4_eq hS he e 0 N (by omega) (by omega)
theorem outS_cong {P Q : Nat → Int32} {p : Int32} : ∀ {e : Nat}, (∀ i, i < 5 * e → P i = Q i) → outS P p e = outS Q p e
  | 0, _ => rfl
  | e + 1, h => by
    have h4 := h (5 * e + 4) (by omega)
    have h1 := h (5 * e + 1) (by omega)
    have h0 := h (5 * e) (by omega)
    rw [outS, outS, outS_cong (fun i hi => h i (by omega)), h4]
    unfold outBy
    rw [h0, h1]
