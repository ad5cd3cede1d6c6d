/-! lowest parts -/
def gcF : Nat → Nat → Nat → Nat
  | 0, a, _ => a
  | n + 1, a, b => if b = 0 then a else gcF n b (a % b)
/-- the steps end in time -/
def gcT : Nat → Nat → Nat → Prop
  | 0, _, b => b = 0
  | n + 1, a, b => b = 0 ∨ gcT n b (a % b)
def fp : Nat → Nat × Nat
  | 0 => (0, 1)
  | n + 1 => ((fp n).2, (fp n).1 + (fp n).2)
theorem gcT_fp : ∀ (n a b : Nat), b ≤ a → (b < (fp n).2 ∨ a < (fp n).1 + (fp n).2) → gcT n a b
  | 0, a, b, h, hh => by
    have e : fp 0 = (0, 1) := rfl
    rw [e] at hh
    show b = 0
    simp only at hh
    omega
  | n + 1, a, b, h, hh => by
    by_cases c : b = 0
    · exact Or.inl c
    · refine Or.inr (gcT_fp n b (a % b) (Nat.le_of_lt (Nat.mod_lt _ (by omega))) ?_)
      have e : fp (n + 1) = ((fp n).2, (fp n).1 + (fp n).2) := rfl
      rw [e] at hh
      simp only at hh
      by_cases c2 : b < (fp n).1 + (fp n).2
      · exact Or.inr c2
      · left
        have h1 : a < (fp n).2 + ((fp n).1 + (fp n).2) := hh.resolve_left c2
        have h2 : a % b ≤ a - b := by
          have := Nat.mod_eq_sub_mod h
          rw [this]; exact Nat.mod_le _ _
        omega
theorem fp_99 : 2 ^ 63 < (fp 99).1 + (fp 99).2 := by decide +kernel
theorem gcT_100 {a b : Nat} (ha : a < 2 ^ 63) (hb : b < 2 ^ 63) : gcT 100 a b := by
  have h99 := fp_99
  by_cases c : b = 0
  · exact Or.inl c
  · exact Or.inr (gcT_fp 99 b (a % b) (Nat.le_of_lt (Nat.mod_lt _ (by omega))) (Or.inr (by omega)))
theorem gcF_pos : ∀ (n a b : Nat), 0 < a → 0 < gcF n a b
  | 0, a, b, h => h
  | n + 1, a, b, h => by
    rw [gcF]
    split
    · exact h
    · exact gcF_pos n b (a % b) (by omega)
theorem gcF_lt : ∀ (n a b : Nat), a < 2 ^ 63 → b < 2 ^ 63 → gcF n a b < 2 ^ 63
  | 0, a, b, h, _ => h
  | n + 1, a, b, h, hb => by
    rw [gcF]
    split
    · exact h
    · exact gcF_lt n b (a % b) hb (by have := Nat.mod_lt a (show 0 < b by omega); omega)
theorem lg_0 (b : Nat) (hb : b < 2 ^ 63) : lg_cmp (lN b) 0 = 0 ↔ b = 0 := by
  rw [lg_cmp_eq, show (0 : Int64) = lN 0 from rfl, pk_lEQ hb (by decide)]
theorem c_gcd_l {N : Nat} : ∀ (m k f a b : Nat), k + m = 100 → m < f → a < 2 ^ 63 → b < 2 ^ 63 → X1_greatestDivisor_l3 N f (lN a) (lN b) (nI k) = some (lN (gcF m a b)) := by
  intro m
  induction m with
  | zero =>
    intro k f a b hk hf ha hb
    obtain ⟨f, rfl⟩ : ∃ q, f = q + 1 := ⟨f - 1, by omega⟩
    have : k = 100 := by omega
    subst this
    show X1_greatestDivisor_b3 N (X1_greatestDivisor_l3 N f) _ _ _ = _
    unfold X1_greatestDivisor_b3
    rw [if_pos (by decide)]
    rfl
  | succ m ih =>
    intro k f a b hk hf ha hb
    obtain ⟨f, rfl⟩ : ∃ q, f = q + 1 := ⟨f - 1, by omega⟩
    show X1_greatestDivisor_b3 N (X1_greatestDivisor_l3 N f) _ _ _ = _
    unfold X1_greatestDivisor_b3
    rw [if_neg (by exact iNLE 100 k (by omega)), gcF]
    by_cases c : b = 0
    · rw [if_pos ((lg_0 b hb).mpr c), if_pos c]
    · rw [if_neg (fun z => c ((lg_0 b hb).mp z)), if_pos (by rw [show (0 : Int64) = lN 0 from rfl, pk_lEQ hb (by decide)]; exact c), if_neg c, pk_lRem ha (by omega) hb, nI_1]
      exact ih (k + 1) f b (a % b) (by omega) (by omega) hb (by have := Nat.mod_lt a (show 0 < b by omega); omega)
theorem r_gcd_l {N : Nat} : ∀ (m f a b : Nat), m < f → a < 2 ^ 63 → b < 2 ^ 63 → gcT m a b → X11_divisor_l6 N f (lN a) (lN b) = some (lN (gcF m a b)) := by
  intro m
  induction m with
  | zero =>
    intro f a b hf ha hb ht
    obtain ⟨f, rfl⟩ : ∃ q, f = q + 1 := ⟨f - 1, by omega⟩
    have h0 : b = 0 := ht
    show X11_divisor_b6 N (X11_divisor_l6 N f) _ _ = _
    unfold X11_divisor_b6
    rw [if_pos ((lg_0 b hb).mpr h0)]
    rfl
  | succ m ih =>
    intro f a b hf ha hb ht
    obtain ⟨f, rfl⟩ : ∃ q, f = q + 1 := ⟨f - 1, by omega⟩
    show X11_divisor_b6 N (X11_divisor_l6 N f) _ _ = _
    unfold X11_divisor_b6
    rw [gcF]
    by_cases c : b = 0
    · rw [if_pos ((lg_0 b hb).mpr c), if_pos c]
    · rw [if_neg (fun z => c ((lg_0 b hb).mp z)), if_pos (by rw [show (0 : Int64) = lN 0 from rfl, pk_lEQ hb (by decide)]; exact c), if_neg c, pk_lRem ha (by omega) hb]
      exact ih f b (a % b) (by omega) hb (by have := Nat.mod_lt a (show 0 < b by omega); omega) (ht.resolve_left c)
/-- the parts agree -/
theorem m_lowest {N a b : Nat} (p : Int32) (hN : 200 ≤ N) (ha : a < 2 ^ 63) (hb : b < 2 ^ 63) (h0 : 0 < a ∨ 0 < b) : ∃ r, X1_lowest N (lN a) (lN b) p = some r ∧ X11_lowest N (lN a) (lN b) p = some r := by
  have hg := gcF_lt 100 a b ha hb
  have hp : 0 < gcF 100 a b := by
    by_cases c : 0 < a
    · exact gcF_pos _ _ _ c
    · have hb0 : 0 < b := by omega
      have e : gcF 100 a b = gcF 99 b (a % b) := by rw [gcF, if_neg (by omega)]
      rw [e]; exact gcF_pos _ _ _ hb0
  have n0 : ¬ lN (gcF 100 a b) = 0 := by rw [show (0 : Int64) = lN 0 from rfl, pk_lEQ hg (by decide)]; omega
  have nle : ¬ lg_cmp (lN (gcF 100 a b)) 0 ≤ 0 := by
    rw [m_lgle, show (0 : Int64) = lN 0 from rfl, pk_lLT (by decide) hg]; omega
  unfold X1_lowest X11_lowest X1_greatestDivisor X11_divisor X1_lowest_b17
  rw [show (0 : Int32) = nI 0 from rfl, c_gcd_l 100 0 N a b rfl (by omega) ha hb, r_gcd_l 100 N a b (by omega) ha hb (gcT_100 ha hb)]
  simp only [Option.bind_some]
  rw [show nI 0 = (0 : Int32) from rfl]
  by_cases c : p = 0
  · rw [if_pos c, if_pos c, if_neg nle, if_pos n0]
    exact ⟨_, rfl, rfl⟩
  · rw [if_neg c, if_neg c, if_neg nle, if_pos n0]
    exact ⟨_, rfl, rfl⟩
