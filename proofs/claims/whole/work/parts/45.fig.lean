/-! figures by tens -/
def nd (n : Nat) : Nat := if n < 10 then 1 else if n < 100 then 2 else if n < 1000 then 3 else if n < 10000 then 4 else if n < 100000 then 5 else 6
theorem nd_range (n : Nat) : 1 ≤ nd n ∧ nd n ≤ 6 := by
  unfold nd
  (repeat' split) <;> omega
theorem m_p10 {k : Nat} (h : k < 7) : 10 ^ k = 1 ∨ 10 ^ k = 10 ∨ 10 ^ k = 100 ∨ 10 ^ k = 1000 ∨ 10 ^ k = 10000 ∨ 10 ^ k = 100000 ∨ 10 ^ k = 1000000 := by
  rcases (show k = 0 ∨ k = 1 ∨ k = 2 ∨ k = 3 ∨ k = 4 ∨ k = 5 ∨ k = 6 by omega) with rfl | rfl | rfl | rfl | rfl | rfl | rfl <;> decide
theorem m_p10b {k : Nat} (h : k < 7) : 1 ≤ 10 ^ k ∧ 10 ^ k ≤ 1000000 := by
  rcases m_p10 h with e | e | e | e | e | e | e <;> omega
theorem X6_at_1001_eq {k : Nat} (h : k < 7) : X6_at_1001 (nI k) = nI (10 ^ k) := by
  rcases (show k = 0 ∨ k = 1 ∨ k = 2 ∨ k = 3 ∨ k = 4 ∨ k = 5 ∨ k = 6 by omega) with rfl | rfl | rfl | rfl | rfl | rfl | rfl <;> decide
theorem X0_many_st {N f n m : Nat} (hn : n < 2 ^ 31) (hm : m < 6) : X0_many_l2 N (f + 1) (nI n) (nI m) = if n < 10 ^ m then some (nI m) else X0_many_l2 N f (nI n) (nI (m + 1)) := by
  show X0_many_b2 N (X0_many_l2 N f) _ _ = _
  unfold X0_many_b2
  simp only [aLet]
  have hb := m_p10b (k := m) (by omega)
  rw [if_neg (by rw [show (6 : Int32) = nI 6 from rfl, nI_leI (by omega) (by omega)]; omega), X6_at_1001_eq (by omega), nI_1]
  by_cases c : n < 10 ^ m
  · rw [if_pos c, if_pos (by rw [nI_ltI hn (by omega)]; exact c)]
  · rw [if_neg c, if_neg (by rw [nI_ltI hn (by omega)]; exact c)]
theorem X0_many_eq {N n : Nat} (hN : 10 ≤ N) (hn : n ≤ 999999) : X0_many N (nI n) = some (nI (nd n)) := by
  obtain ⟨f, rfl⟩ : ∃ f, N = f + 6 := ⟨N - 6, by omega⟩
  unfold X0_many
  rw [show (1 : Int32) = nI 1 from rfl, X0_many_st (f := f + 5) (by omega) (by omega), X0_many_st (f := f + 4) (by omega) (by omega), X0_many_st (f := f + 3) (by omega) (by omega), X0_many_st (f := f + 2) (by omega) (by omega), X0_many_st (f := f + 1) (by omega) (by omega)]
  have h6 : X0_many_l2 (f + 6) (f + 1) (nI n) (nI (5 + 1)) = some (nI 6) := by
    show X0_many_b2 _ _ _ _ = _
    unfold X0_many_b2
    rw [if_pos (by decide)]
  rw [h6]
  unfold nd
  simp only [show (10 : Nat) ^ 1 = 10 from rfl, show (10 : Nat) ^ (1 + 1) = 100 from rfl, show (10 : Nat) ^ (1 + 1 + 1) = 1000 from rfl, show (10 : Nat) ^ (1 + 1 + 1 + 1) = 10000 from rfl, show (10 : Nat) ^ (1 + 1 + 1 + 1 + 1) = 100000 from rfl]
  repeat' split
  all_goals rfl
theorem X11_figures_st {N f c r : Nat} (hr : r < 2 ^ 31) : X11_figures_l7 N (f + 1) (nI c) (nI r) = if r = 0 then some (nI c) else X11_figures_l7 N f (nI (c + 1)) (nI (r / 10)) := by
  show X11_figures_b7 N (X11_figures_l7 N f) _ _ = _
  unfold X11_figures_b7
  by_cases h : r = 0
  · subst h
    rw [if_pos (by decide), if_pos rfl]
  · rw [if_neg h, if_neg (by rw [show (0 : Int32) = nI 0 from rfl, nI_leI hr (by omega)]; omega), nI_1, show (10 : Int32) = nI 10 from rfl, pk_div hr (by omega) (by omega)]
theorem X11_figures_eq {N n : Nat} (hN : 10 ≤ N) (hn : n ≤ 999999) : X11_figures N (nI n) = some (nI (nd n)) := by
  obtain ⟨f, rfl⟩ : ∃ f, N = f + 6 := ⟨N - 6, by omega⟩
  unfold X11_figures
  rw [show (10 : Int32) = nI 10 from rfl, pk_div (by omega) (by omega) (by omega), show (1 : Int32) = nI 1 from rfl, X11_figures_st (f := f + 5) (by omega), X11_figures_st (f := f + 4) (by omega), X11_figures_st (f := f + 3) (by omega), X11_figures_st (f := f + 2) (by omega), X11_figures_st (f := f + 1) (by omega), X11_figures_st (f := f) (by omega)]
  unfold nd
  have e6 : n / 10 / 10 / 10 / 10 / 10 / 10 = 0 := by omega
  rw [if_pos e6]
  by_cases h1 : n < 10
  · rw [if_pos h1, if_pos (by omega)]
  · rw [if_neg h1, if_neg (by omega)]
    by_cases h2 : n < 100
    · rw [if_pos h2, if_pos (by omega)]
    · rw [if_neg h2, if_neg (by omega)]
      by_cases h3 : n < 1000
      · rw [if_pos h3, if_pos (by omega)]
      · rw [if_neg h3, if_neg (by omega)]
        by_cases h4 : n < 10000
        · rw [if_pos h4, if_pos (by omega)]
        · rw [if_neg h4, if_neg (by omega)]
          by_cases h5 : n < 100000
          · rw [if_pos h5, if_pos (by omega)]
          · rw [if_neg h5, if_neg (by omega)]
def dg (n k : Nat) : Nat := n / 10 ^ k % 10
theorem X0_at_eq {N n k : Nat} (hn : n < 2 ^ 31) (hk : k < 7) : X0_at N (nI n) (nI k) = some (nI (dg n k)) := by
  have hb := m_p10b hk
  unfold X0_at dg
  simp only [aLet]
  have hd : n / 10 ^ k < 2 ^ 31 := Nat.lt_of_le_of_lt (Nat.div_le_self _ _) hn
  rw [X6_at_1001_eq hk, if_neg (by rw [show (0 : Int32) = nI 0 from rfl, nI_leI (by omega) (by omega)]; omega), if_pos (by rw [show (0 : Int32) = nI 0 from rfl, nI_eq (by omega) (by omega)]; omega), pk_div hn (by omega) (by omega), show (10 : Int32) = nI 10 from rfl, pk_rem hd (by omega) (by omega)]
theorem X11_power_l_eq {N k : Nat} (hk : k < 7) : ∀ (m j f : Nat), j + m = k → m < f → X11_power_l4 N f (nI k) (nI (10 ^ j)) (nI j) = some (nI (10 ^ k)) := by
  intro m
  induction m with
  | zero =>
    intro j f hj hf
    obtain ⟨f, rfl⟩ : ∃ q, f = q + 1 := ⟨f - 1, by omega⟩
    show X11_power_b4 N (X11_power_l4 N f) _ _ _ = _
    unfold X11_power_b4
    have : j = k := by omega
    subst this
    rw [if_pos (Int32.le_refl _)]
  | succ m ih =>
    intro j f hj hf
    obtain ⟨f, rfl⟩ : ∃ q, f = q + 1 := ⟨f - 1, by omega⟩
    show X11_power_b4 N (X11_power_l4 N f) _ _ _ = _
    unfold X11_power_b4
    rw [if_neg (by rw [nI_leI (by omega) (by omega)]; omega), show (10 : Int32) = nI 10 from rfl, pk_mul, nI_1, ← Nat.pow_succ]
    exact ih (j + 1) f (by omega) (by omega)
theorem X11_power_eq {N k : Nat} (hN : 10 ≤ N) (hk : k < 7) : X11_power N (nI k) = some (nI (10 ^ k)) := X11_power_l_eq hk k 0 N (by omega) (by omega)
theorem X11_figure_eq {N n k : Nat} (hN : 10 ≤ N) (hn : n < 2 ^ 31) (hk : k < 7) : X11_figure N (nI n) (nI k) = some (nI (dg n k)) := by
  have hb := m_p10b hk
  have hd : n / 10 ^ k < 2 ^ 31 := Nat.lt_of_le_of_lt (Nat.div_le_self _ _) hn
  unfold X11_figure dg
  rw [X11_power_eq hN hk]
  simp only [Option.bind_some]
  rw [if_pos (by rw [show (0 : Int32) = nI 0 from rfl, nI_eq (by omega) (by omega)]; omega), pk_div hn (by omega) (by omega), show (10 : Int32) = nI 10 from rfl, pk_rem hd (by omega) (by omega)]
/-- a turn about -/
def tn (n k : Nat) : Int32 := if dg n k = dg n (k + 1) ∨ (n / 10 ^ k < 100 ∧ dg n k = 0) then 0 else nI n + (nI (dg n k) - nI (dg n (k + 1))) * nI (9 * 10 ^ k)
theorem dg_lt (n k : Nat) : dg n k < 10 := Nat.mod_lt _ (by decide)
theorem X0_turned_eq {N n k : Nat} (hn : n ≤ 999999) (hk : k < 6) : X0_turned N (nI n) (nI k) = some (tn n k) := by
  have hb := m_p10b (show k < 7 by omega)
  have hd : n / 10 ^ k < 2 ^ 31 := Nat.lt_of_le_of_lt (Nat.div_le_self _ _) (by omega)
  have hd2 : n / 10 ^ k / 10 < 2 ^ 31 := Nat.lt_of_le_of_lt (Nat.div_le_self _ _) hd
  have e1 : n / 10 ^ k / 10 % 10 = dg n (k + 1) := by unfold dg; rw [Nat.div_div_eq_div_mul, Nat.pow_succ]
  unfold X0_turned
  simp only [aLet]
  rw [X6_at_1001_eq (by omega), if_pos (by rw [show (0 : Int32) = nI 0 from rfl, nI_ltI (by omega) (by omega)]; omega), if_pos (by rw [show (0 : Int32) = nI 0 from rfl, nI_eq (by omega) (by omega)]; omega), pk_div (by omega) (by omega) (by omega), show (10 : Int32) = nI 10 from rfl, pk_rem hd (by omega) (by omega), pk_div hd (by omega) (by omega), pk_rem hd2 (by omega) (by omega), e1, show n / 10 ^ k % 10 = dg n k from rfl]
  have hl0 := dg_lt n k
  have hl1 := dg_lt n (k + 1)
  have ev : X0_turned_b65 N (nI n) (nI (10 ^ k)) (nI (dg n k)) (nI (dg n (k + 1))) = some (nI n + (nI (dg n k) - nI (dg n (k + 1))) * nI (9 * 10 ^ k)) := by
    unfold X0_turned_b65
    rw [show (9 : Int32) = nI 9 from rfl, Int32.mul_assoc, pk_mul]
  unfold X0_turned_b44 tn
  rw [ev]
  by_cases c1 : dg n k = dg n (k + 1)
  · have c1' : nI (dg n k) = nI (dg n (k + 1)) := by rw [c1]
    rw [if_pos c1', if_pos c1', if_pos (Or.inl c1)]
    split <;> rfl
  · have c1' : ¬ nI (dg n k) = nI (dg n (k + 1)) := by rw [nI_eq (by omega) (by omega)]; exact c1
    rw [if_neg c1', if_neg c1', if_pos (show (0 : Int32) = 0 from rfl), if_neg n10]
    by_cases c2 : n / 10 ^ k < 100
    · rw [if_neg (by rw [show (100 : Int32) = nI 100 from rfl, nI_leI (by omega) hd]; omega)]
      by_cases c3 : dg n k = 0
      · rw [if_pos (by rw [c3]; rfl), if_pos (Or.inr ⟨c2, c3⟩)]
      · rw [if_neg (by rw [show (0 : Int32) = nI 0 from rfl, nI_eq (by omega) (by omega)]; exact c3), if_neg (fun z => z.elim c1 (fun z => c3 z.2))]
    · rw [if_pos (by rw [show (100 : Int32) = nI 100 from rfl, nI_leI (by omega) hd]; omega), if_neg (fun z => z.elim c1 (fun z => c2 z.1))]
theorem nd_first {n k : Nat} (hk : k + 2 ≤ nd n) (hn : n ≤ 999999) : (k + 2 = nd n) ↔ n / 10 ^ k < 100 := by
  unfold nd at hk ⊢
  rcases (show k = 0 ∨ k = 1 ∨ k = 2 ∨ k = 3 ∨ 4 ≤ k by omega) with rfl | rfl | rfl | rfl | h4
  · (repeat' split) <;> (try (split at hk)) <;> omega
  · (repeat' split) <;> (try (split at hk)) <;> omega
  · (repeat' split) <;> (try (split at hk)) <;> omega
  · (repeat' split) <;> (try (split at hk)) <;> omega
  · have : k = 4 ∨ 5 ≤ k := by omega
    rcases this with rfl | h5
    · (repeat' split) <;> (try (split at hk)) <;> omega
    · exfalso
      have := nd_range n
      unfold nd at this
      omega
theorem X11_turned_eq {N n k : Nat} (hN : 10 ≤ N) (hn : n ≤ 999999) (hk : k + 2 ≤ nd n) : X11_turned N (nI n) (nI k) = some (tn n k) := by
  have hr := nd_range n
  have hb := m_p10b (show k < 7 by omega)
  have hb1 := m_p10b (show k + 1 < 7 by omega)
  have hl0 := dg_lt n k
  have hl1 := dg_lt n (k + 1)
  have hf := nd_first hk hn
  unfold X11_turned
  rw [nI_1, m_a2, X11_figure_eq hN (by omega) (by omega), X11_figure_eq hN (by omega) (by omega), X11_figures_eq hN hn]
  simp only [Option.bind_some]
  have ev : X11_turned_b49 N (nI n) (nI k) (nI (dg n k)) (nI (dg n (k + 1))) = some (nI n + (nI (dg n k) - nI (dg n (k + 1))) * nI (9 * 10 ^ k)) := by
    unfold X11_turned_b49
    rw [nI_1, X11_power_eq hN (by omega), X11_power_eq hN (by omega)]
    simp only [Option.bind_some]
    rw [pk_sub (a := 10 ^ (k + 1)) (b := 10 ^ k) (by rw [Nat.pow_succ]; omega), show 10 ^ (k + 1) - 10 ^ k = 9 * 10 ^ k by rw [Nat.pow_succ]; omega]
  unfold X11_turned_b29 tn
  rw [ev]
  by_cases c1 : dg n k = dg n (k + 1)
  · have c1' : nI (dg n k) = nI (dg n (k + 1)) := by rw [c1]
    rw [if_pos c1', if_pos c1', if_pos (Or.inl c1)]
    split <;> rfl
  · have c1' : ¬ nI (dg n k) = nI (dg n (k + 1)) := by rw [nI_eq (by omega) (by omega)]; exact c1
    rw [if_neg c1', if_neg c1', if_pos (show (0 : Int32) = 0 from rfl), if_neg n10]
    by_cases c2 : n / 10 ^ k < 100
    · rw [if_pos (by rw [nI_eq (by omega) (by omega)]; exact hf.mpr c2)]
      by_cases c3 : dg n k = 0
      · rw [if_pos (by rw [c3]; rfl), if_pos (Or.inr ⟨c2, c3⟩)]
      · rw [if_neg (by rw [show (0 : Int32) = nI 0 from rfl, nI_eq (by omega) (by omega)]; exact c3), if_neg (fun z => z.elim c1 (fun z => c3 z.2))]
    · rw [if_neg (by rw [nI_eq (by omega) (by omega)]; exact fun z => c2 (hf.mp z)), if_neg (fun z => z.elim c1 (fun z => c2 z.1))]
