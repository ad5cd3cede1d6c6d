/-! numbers: what the printed functions compute with -/
theorem m_lit (n : Nat) : (OfNat.ofNat n : Int32) = nI n := rfl
theorem m_ix {j N : Nat} (h : j < N) (hN : N < 2 ^ 31) : aIx (nI j) N = true := by
  unfold aIx
  rw [nI_clamp (by omega)]
  simp only [decide_eq_true_eq, not_or]
  exact ⟨nI_pos (by omega), by omega⟩
theorem m_lt0 {n : Nat} (h : n < 2 ^ 31) : nI n < 0 ↔ False := ⟨fun z => nI_pos h z, fun z => z.elim⟩
theorem m_in (x lo hi : Int32) : X11_in x.toInt64 lo.toInt64 hi.toInt64 = if lo ≤ x ∧ x ≤ hi then 1 else 0 := by
  unfold X11_in
  have h1 : (lg_cmp x.toInt64 lo.toInt64 < 0) ↔ x < lo := by
    rw [lg_cmp_lt, Int64.lt_iff_toInt_lt, Int32.toInt_toInt64, Int32.toInt_toInt64, ← Int32.lt_iff_toInt_lt]
  have h2 : (0 < lg_cmp x.toInt64 hi.toInt64) ↔ hi < x := by
    rw [lg_cmp_gt, Int64.lt_iff_toInt_lt, Int32.toInt_toInt64, Int32.toInt_toInt64, ← Int32.lt_iff_toInt_lt]
  by_cases a : x < lo
  · rw [if_pos (h1.mpr a), if_neg (fun z => Int32.not_lt.mpr z.1 a)]
  · rw [if_neg (fun z => a (h1.mp z))]
    by_cases b : hi < x
    · rw [if_pos (h2.mpr b), if_neg (fun z => Int32.not_lt.mpr z.2 b)]
    · rw [if_neg (fun z => b (h2.mp z)), if_pos ⟨Int32.not_lt.mp a, Int32.not_lt.mp b⟩]
/-- a place between bounds is a number -/
theorem m_nat {x : Int32} (h : (0 : Int32) ≤ x) : ∃ j : Nat, j < 2 ^ 31 ∧ x = nI j := nI_of (Int32.not_lt.mpr h)
/-! what stands out -/
def outBy (P : Nat → Int32) (j : Nat) : Int32 := if P (5 * j) = 0 then P (5 * j + 1) else - P (5 * j + 1)
def outS (P : Nat → Int32) (p : Int32) : Nat → Int32
  | 0 => 0
  | j + 1 => if p = (-1 : Int32) ∨ P (5 * j + 4) = p then outS P p j + outBy P j else outS P p j
theorem X2_told_eq {S : aSt} {j w : Nat} (h : 5 * j + w < 150) : X2_told_8 (nI j) (nI w) S = S.2.2 9 (5 * j + w) := by
  unfold X2_told_8
  have e : nI j * (5 : Int32) + nI w = nI (5 * j + w) := by
    show nI j * nI 5 + nI w = _
    rw [pk_mul, nI_add, Nat.mul_comm]
  rw [e, if_neg (nI_pos (by omega)), if_neg (fun z => by rw [show (150 : Int32) = nI 150 from rfl, nI_leI (by omega) (by omega)] at z; omega), nI_clamp (by omega)]
theorem X2_outBy_eq {S : aSt} {j : Nat} (h : j < 30) : X2_outBy_8 (nI j) S = outBy (S.2.2 9) j := by
  unfold X2_outBy_8 aLet outBy
  rw [show (0 : Int32) = nI 0 from rfl, show (1 : Int32) = nI 1 from rfl, X2_told_eq (by omega), X2_told_eq (by omega)]
  rfl
theorem X2_outOf_l4_eq {S : aSt} {N e : Nat} {p : Int32} (hS : S.1 8 0 = nI e) (he : e ≤ 30) : ∀ (m j n : Nat), j + m = e → m < n → X2_outOf_8_l4 N S n p (outS (S.2.2 9) p j) (nI j) = some (outS (S.2.2 9) p e) := by
  intro m
  induction m with
  | zero =>
    intro j n hj hn
    obtain ⟨n, rfl⟩ : ∃ k, n = k + 1 := ⟨n - 1, by omega⟩
    show X2_outOf_8_b4 N S (X2_outOf_8_l4 N S n) p _ _ = _
    unfold X2_outOf_8_b4
    have : j = e := by omega
    subst this
    rw [hS, if_pos (Int32.le_refl _)]
  | succ m ih =>
    intro j n hj hn
    obtain ⟨n, rfl⟩ : ∃ k, n = k + 1 := ⟨n - 1, by omega⟩
    show X2_outOf_8_b4 N S (X2_outOf_8_l4 N S n) p _ _ = _
    have hi := ih (j + 1) n (by omega) (by omega)
    have h1 : ¬ S.1 8 0 ≤ nI j := by rw [hS, nI_leI (by omega) (by omega)]; omega
    unfold X2_outOf_8_b4
    rw [if_neg h1]
    simp only [X2_outOf_8_b27, X2_outOf_8_b35, aLet, nI_1, X2_outBy_eq (show j < 30 by omega)]
    rw [show (4 : Int32) = nI 4 from rfl, X2_told_eq (show 5 * j + 4 < 150 by omega)]
    rw [outS] at hi
    by_cases c1 : p = (-1 : Int32)
    · rw [if_pos c1]
      rw [if_pos (Or.inl c1)] at hi
      exact hi
    · rw [if_neg c1]
      by_cases c2 : S.2.2 9 (5 * j + 4) = p
      · rw [if_pos c2]
        rw [if_pos (Or.inr c2)] at hi
        exact hi
      · rw [if_neg c2]
        rw [if_neg (fun z => z.elim c1 c2)] at hi
        exact hi
theorem X2_outOf_eq {S : aSt} {N e : Nat} (p : Int32) (hS : S.1 8 0 = nI e) (he : e ≤ 30) (hN : 40 ≤ N) : X2_outOf_8 N p S = some (outS (S.2.2 9) p e) :=
  X2_outOf_l4_eq hS he e 0 N (by omega) (by omega)
