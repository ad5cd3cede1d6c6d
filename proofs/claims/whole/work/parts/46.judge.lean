/-! judge -/
/-- an entry ahead is alike -/
def twin (P : Nat → Int32) (j : Nat) : Nat → Bool
  | 0 => false
  | k + 1 => twin P j k || (decide (P (5 * k) = P (5 * j)) && decide (P (5 * k + 1) = P (5 * j + 1)) && decide (P (5 * k + 2) = P (5 * j + 2)))
def b32 (b : Bool) : Int32 := if b then 1 else 0
theorem b32_01 (b : Bool) : b32 b = 0 ∨ b32 b = 1 := by cases b <;> decide
theorem twin_mono {P : Nat → Int32} {j : Nat} : ∀ {k m : Nat}, k ≤ m → twin P j k = true → twin P j m = true := by
  intro k m h
  induction m with
  | zero => intro h1; rw [show k = 0 by omega] at h1; exact h1
  | succ m ih =>
    intro h1
    by_cases c : k = m + 1
    · rw [← c]; exact h1
    · rw [twin, ih (by omega) h1]; rfl
theorem X2_hasTwin_l_eq {S : aSt} {N j : Nat} (hj : j < 30) : ∀ (m k f : Nat), k + m = j → m < f → twin (S.2.2 9) j k = false → X2_hasTwinAhead_8_l2 N S f (nI j) (nI k) = some (b32 (twin (S.2.2 9) j j)) := by
  intro m
  induction m with
  | zero =>
    intro k f hk hf ht
    obtain ⟨f, rfl⟩ : ∃ q, f = q + 1 := ⟨f - 1, by omega⟩
    show X2_hasTwinAhead_8_b2 N S (X2_hasTwinAhead_8_l2 N S f) _ _ = _
    unfold X2_hasTwinAhead_8_b2
    have : k = j := by omega
    subst this
    rw [if_pos (Int32.le_refl _), ht]
    rfl
  | succ m ih =>
    intro k f hk hf ht
    obtain ⟨f, rfl⟩ : ∃ q, f = q + 1 := ⟨f - 1, by omega⟩
    show X2_hasTwinAhead_8_b2 N S (X2_hasTwinAhead_8_l2 N S f) _ _ = _
    unfold X2_hasTwinAhead_8_b2 X2_hasTwinAhead_8_b54
    simp only [aLet]
    rw [if_neg (by rw [nI_leI (by omega) (by omega)]; omega)]
    have e0 : ∀ q, q < 30 → X2_told_8 (nI q) (0 : Int32) S = S.2.2 9 (5 * q) := fun q hq => X2_told_eq (w := 0) (by omega)
    have e1 : ∀ q, q < 30 → X2_told_8 (nI q) (1 : Int32) S = S.2.2 9 (5 * q + 1) := fun q hq => X2_told_eq (w := 1) (by omega)
    have e2 : ∀ q, q < 30 → X2_told_8 (nI q) (2 : Int32) S = S.2.2 9 (5 * q + 2) := fun q hq => X2_told_eq (w := 2) (by omega)
    rw [e0 k (by omega), e0 j hj, e1 k (by omega), e1 j hj, e2 k (by omega), e2 j hj, nI_1]
    have next : (twin (S.2.2 9) j (k + 1) = false) → X2_hasTwinAhead_8_l2 N S f (nI j) (nI (k + 1)) = some (b32 (twin (S.2.2 9) j j)) := fun h => ih (k + 1) f (by omega) (by omega) h
    by_cases c0 : S.2.2 9 (5 * k) = S.2.2 9 (5 * j)
    · rw [if_pos c0]
      by_cases c1 : S.2.2 9 (5 * k + 1) = S.2.2 9 (5 * j + 1)
      · rw [if_pos c1]
        by_cases c2 : S.2.2 9 (5 * k + 2) = S.2.2 9 (5 * j + 2)
        · rw [if_pos c2, twin_mono (k := k + 1) (by omega) (by rw [twin]; simp [c0, c1, c2])]
          rfl
        · rw [if_neg c2]
          exact next (by rw [twin, ht]; simp [c2])
      · rw [if_neg c1]
        exact next (by rw [twin, ht]; simp [c1])
    · rw [if_neg c0]
      exact next (by rw [twin, ht]; simp [c0])
theorem X2_hasTwin_eq {S : aSt} {N j : Nat} (hN : 40 ≤ N) (hj : j < 30) : X2_hasTwinAhead_8 N (nI j) S = some (b32 (twin (S.2.2 9) j j)) := X2_hasTwin_l_eq hj j 0 N (by omega) (by omega) rfl
theorem X11_isTwice_l_eq {S : aSt} {N j : Nat} (hj : j < 30) : ∀ (m k f : Nat), k + m = j → m < f → X11_isTwice_42_l4 N S f (nI j) (b32 (twin (S.2.2 45) j k)) (nI k) = some (b32 (twin (S.2.2 45) j j)) := by
  intro m
  induction m with
  | zero =>
    intro k f hk hf
    obtain ⟨f, rfl⟩ : ∃ q, f = q + 1 := ⟨f - 1, by omega⟩
    show X11_isTwice_42_b4 N S (X11_isTwice_42_l4 N S f) _ _ _ = _
    unfold X11_isTwice_42_b4
    have : k = j := by omega
    subst this
    rw [if_pos (Int32.le_refl _), if_pos (b32_01 _)]
  | succ m ih =>
    intro k f hk hf
    obtain ⟨f, rfl⟩ : ∃ q, f = q + 1 := ⟨f - 1, by omega⟩
    show X11_isTwice_42_b4 N S (X11_isTwice_42_l4 N S f) _ _ _ = _
    have hi := ih (k + 1) f (by omega) (by omega)
    unfold X11_isTwice_42_b4 X11_isTwice_42_b78 X11_isTwice_42_b82 X11_isTwice_42_b83
    rw [if_neg (by rw [nI_leI (by omega) (by omega)]; omega)]
    simp only [m_50, nI_1, m_a2, m_ix (show 5 * k < 150 by omega) (by decide), m_ix (show 5 * j < 150 by omega) (by decide), m_ix (show 5 * k + 1 < 150 by omega) (by decide), m_ix (show 5 * j + 1 < 150 by omega) (by decide), m_ix (show 5 * k + 2 < 150 by omega) (by decide), m_ix (show 5 * j + 2 < 150 by omega) (by decide), nI_clamp (show 5 * k < 2 ^ 31 by omega), nI_clamp (show 5 * j < 2 ^ 31 by omega), nI_clamp (show 5 * k + 1 < 2 ^ 31 by omega), nI_clamp (show 5 * j + 1 < 2 ^ 31 by omega), nI_clamp (show 5 * k + 2 < 2 ^ 31 by omega), nI_clamp (show 5 * j + 2 < 2 ^ 31 by omega), if_true]
    rw [twin] at hi
    cases ht : twin (S.2.2 45) j k with
    | true =>
      rw [ht] at hi
      rw [if_neg (show ¬ b32 true = 0 by decide)]
      exact hi
    | false =>
      rw [ht, Bool.false_or] at hi
      rw [if_pos (show b32 false = 0 from rfl)]
      by_cases c0 : S.2.2 45 (5 * k) = S.2.2 45 (5 * j)
      · rw [if_pos c0]
        by_cases c1 : S.2.2 45 (5 * k + 1) = S.2.2 45 (5 * j + 1)
        · rw [if_pos c1]
          by_cases c2 : S.2.2 45 (5 * k + 2) = S.2.2 45 (5 * j + 2)
          · rw [if_pos c2]
            simp only [c0, c1, c2, decide_true, Bool.and_self] at hi
            exact hi
          · rw [if_neg c2]
            simp only [c2, decide_false, Bool.and_false] at hi
            exact hi
        · rw [if_neg c1]
          simp only [c1, decide_false, Bool.and_false, Bool.false_and] at hi
          exact hi
      · rw [if_neg c0]
        simp only [c0, decide_false, Bool.false_and] at hi
        exact hi
theorem X11_isTwice_eq {S : aSt} {N j : Nat} (hN : 40 ≤ N) (hj : j < 30) : X11_isTwice_42 N (nI j) S = some (b32 (twin (S.2.2 45) j j)) := X11_isTwice_l_eq hj j 0 N (by omega) (by omega)
theorem twin_cong {P Q : Nat → Int32} {e j : Nat} (h : ∀ i, i < 5 * e → P i = Q i) (hj : j < e) : ∀ {k : Nat}, k ≤ e → twin P j k = twin Q j k
  | 0, _ => rfl
  | k + 1, hk => by
    rw [twin, twin, twin_cong h hj (by omega), h (5 * k) (by omega), h (5 * j) (by omega), h (5 * k + 1) (by omega), h (5 * j + 1) (by omega), h (5 * k + 2) (by omega), h (5 * j + 2) (by omega)]
/-- a turn about makes w of n -/
def isTn (n : Nat) (w : Int32) : Nat → Bool
  | 0 => false
  | k + 1 => isTn n w k || decide (tn n k = w)
theorem isTn_mono {n : Nat} {w : Int32} : ∀ {k m : Nat}, k ≤ m → isTn n w k = true → isTn n w m = true := by
  intro k m h
  induction m with
  | zero => intro h1; rw [show k = 0 by omega] at h1; exact h1
  | succ m ih =>
    intro h1
    by_cases c : k = m + 1
    · rw [← c]; exact h1
    · rw [isTn, ih (by omega) h1]; rfl
theorem X0_isTurn_l_eq {N n : Nat} {w : Int32} (hN : 10 ≤ N) (hn : n ≤ 999999) : ∀ (m k f : Nat), k + m = nd n - 1 → m < f → isTn n w k = false → X0_isTurn_l2 N f (nI n) w (nI k) = some (b32 (isTn n w (nd n - 1))) := by
  have hr := nd_range n
  have e1 : nI (nd n) - 1 = nI (nd n - 1) := pk_sub (b := 1) (by omega)
  intro m
  induction m with
  | zero =>
    intro k f hk hf ht
    obtain ⟨f, rfl⟩ : ∃ q, f = q + 1 := ⟨f - 1, by omega⟩
    show X0_isTurn_b2 N (X0_isTurn_l2 N f) _ _ _ = _
    unfold X0_isTurn_b2
    rw [X0_many_eq hN hn]
    simp only [Option.bind_some]
    have : k = nd n - 1 := by omega
    subst this
    rw [e1, if_pos (Int32.le_refl _), ht]
    rfl
  | succ m ih =>
    intro k f hk hf ht
    obtain ⟨f, rfl⟩ : ∃ q, f = q + 1 := ⟨f - 1, by omega⟩
    show X0_isTurn_b2 N (X0_isTurn_l2 N f) _ _ _ = _
    unfold X0_isTurn_b2
    rw [X0_many_eq hN hn]
    simp only [Option.bind_some]
    rw [e1, if_neg (by rw [nI_leI (by omega) (by omega)]; omega), X0_turned_eq hn (by omega)]
    simp only [Option.bind_some]
    rw [nI_1]
    by_cases c : tn n k = w
    · rw [if_pos c, isTn_mono (k := k + 1) (by omega) (by rw [isTn]; simp [c])]
      rfl
    · rw [if_neg c]
      exact ih (k + 1) f (by omega) (by omega) (by rw [isTn, ht]; simp [c])
theorem X0_isTurn_eq {N n : Nat} (w : Int32) (hN : 10 ≤ N) (hn : n ≤ 999999) : X0_isTurn N (nI n) w = some (b32 (isTn n w (nd n - 1))) := by
  have hr := nd_range n
  exact X0_isTurn_l_eq hN hn (nd n - 1) 0 N (by omega) (by omega) rfl
theorem X11_isTurned_l_eq {N n : Nat} {w : Int32} (hN : 10 ≤ N) (hn : n ≤ 999999) : ∀ (m k f : Nat), k + m = nd n - 1 → m < f → X11_isTurned_l4 N f (nI n) w (b32 (isTn n w k)) (nI k) = some (if w ≤ 0 then 0 else b32 (isTn n w (nd n - 1))) := by
  have hr := nd_range n
  intro m
  induction m with
  | zero =>
    intro k f hk hf
    obtain ⟨f, rfl⟩ : ∃ q, f = q + 1 := ⟨f - 1, by omega⟩
    show X11_isTurned_b4 N (X11_isTurned_l4 N f) _ _ _ _ = _
    unfold X11_isTurned_b4
    rw [X11_figures_eq hN hn]
    simp only [Option.bind_some]
    have : k = nd n - 1 := by omega
    subst this
    rw [nI_1, if_pos (by rw [nI_leI (by omega) (by omega)]; omega)]
    unfold X11_isTurned_b39
    cases isTn n w (nd n - 1) with
    | true =>
      rw [if_neg (show ¬ b32 true = 0 by decide)]
      by_cases c : w ≤ 0
      · rw [if_pos c, if_pos c]
      · rw [if_neg c, if_neg c]; rfl
    | false =>
      rw [if_pos (show b32 false = 0 from rfl)]
      split <;> rfl
  | succ m ih =>
    intro k f hk hf
    obtain ⟨f, rfl⟩ : ∃ q, f = q + 1 := ⟨f - 1, by omega⟩
    show X11_isTurned_b4 N (X11_isTurned_l4 N f) _ _ _ _ = _
    have hi := ih (k + 1) f (by omega) (by omega)
    rw [isTn] at hi
    unfold X11_isTurned_b4 X11_isTurned_b27 X11_isTurned_b32
    rw [X11_figures_eq hN hn]
    simp only [Option.bind_some]
    rw [nI_1, if_neg (by rw [nI_leI (by omega) (by omega)]; omega), X11_turned_eq hN hn (by omega)]
    simp only [Option.bind_some]
    cases ht : isTn n w k with
    | true =>
      rw [ht] at hi
      rw [if_neg (show ¬ b32 true = 0 by decide)]
      exact hi
    | false =>
      rw [ht, Bool.false_or] at hi
      rw [if_pos (show b32 false = 0 from rfl)]
      by_cases c : tn n k = w
      · rw [if_pos c]
        simp only [c, decide_true] at hi
        exact hi
      · rw [if_neg c]
        simp only [c, decide_false] at hi
        exact hi
theorem X11_isTurned_eq {N n : Nat} (w : Int32) (hN : 10 ≤ N) (hn : n ≤ 999999) : X11_isTurned N (nI n) w = some (if w ≤ 0 then 0 else b32 (isTn n w (nd n - 1))) := by
  have hr := nd_range n
  exact X11_isTurned_l_eq hN hn (nd n - 1) 0 N (by omega) (by omega)
/-- at how many places below k the figures differ -/
def df (n w : Nat) : Nat → Nat
  | 0 => 0
  | k + 1 => df n w k + (if dg n k = dg w k then 0 else 1)
theorem df_le (n w : Nat) : ∀ k, df n w k ≤ k
  | 0 => Nat.le_refl 0
  | k + 1 => by rw [df]; have := df_le n w k; split <;> omega
theorem X0_isOneFigure_l_eq {N n w : Nat} (hN : 10 ≤ N) (hn : n ≤ 999999) (hw : w ≤ 999999) : ∀ (m k f : Nat), k + m = nd n → m < f → X0_isOneFigure_l17 N f (nI n) (nI w) (nI (df n w k)) (nI k) = some (b32 (decide (df n w (nd n) = 1))) := by
  have hr := nd_range n
  intro m
  induction m with
  | zero =>
    intro k f hk hf
    obtain ⟨f, rfl⟩ : ∃ q, f = q + 1 := ⟨f - 1, by omega⟩
    show X0_isOneFigure_b17 N (X0_isOneFigure_l17 N f) _ _ _ _ = _
    unfold X0_isOneFigure_b17 X0_isOneFigure_b47
    rw [X0_many_eq hN hn]
    simp only [Option.bind_some]
    have : k = nd n := by omega
    subst this
    have hd := df_le n w (nd n)
    rw [if_pos (Int32.le_refl _)]
    by_cases c : df n w (nd n) = 1
    · rw [if_pos (by rw [c]; rfl)]; simp [c, b32]
    · rw [if_neg (by rw [show (1 : Int32) = nI 1 from rfl, nI_eq (by omega) (by omega)]; exact c)]; simp [c, b32]
  | succ m ih =>
    intro k f hk hf
    obtain ⟨f, rfl⟩ : ∃ q, f = q + 1 := ⟨f - 1, by omega⟩
    show X0_isOneFigure_b17 N (X0_isOneFigure_l17 N f) _ _ _ _ = _
    have hi := ih (k + 1) f (by omega) (by omega)
    unfold X0_isOneFigure_b17 X0_isOneFigure_b41
    rw [X0_many_eq hN hn]
    simp only [Option.bind_some]
    rw [if_neg (by rw [nI_leI (by omega) (by omega)]; omega), X0_at_eq (by omega) (by omega), X0_at_eq (by omega) (by omega)]
    simp only [Option.bind_some]
    rw [nI_1, nI_1]
    rw [df] at hi
    have h1 := dg_lt n k
    have h2 := dg_lt w k
    by_cases c : dg n k = dg w k
    · rw [if_pos (by rw [c])]
      rw [if_pos c] at hi
      exact hi
    · rw [if_neg (by rw [nI_eq (by omega) (by omega)]; exact c)]
      rw [if_neg c] at hi
      exact hi
theorem X0_isOneFigure_eq {N n w : Nat} (hN : 10 ≤ N) (hn : n ≤ 999999) (hw : w ≤ 999999) : X0_isOneFigure N (nI n) (nI w) = some (b32 (decide (nd n = nd w) && decide (df n w (nd n) = 1))) := by
  have hr := nd_range n
  have hr2 := nd_range w
  unfold X0_isOneFigure
  rw [X0_many_eq hN hn, X0_many_eq hN hw]
  simp only [Option.bind_some]
  by_cases c : nd n = nd w
  · rw [if_pos (by rw [c]), show (0 : Int32) = nI (df n w 0) from rfl]
    rw [show nI (df n w 0) = nI 0 from rfl]
    have := X0_isOneFigure_l_eq (N := N) hN hn hw (nd n) 0 N (by omega) (by omega)
    rw [show df n w 0 = 0 from rfl] at this
    rw [this]
    simp [c]
  · rw [if_neg (by rw [nI_eq (by omega) (by omega)]; exact c)]
    simp [c, b32]
theorem X11_isFigure_l_eq {N n w : Nat} (hN : 10 ≤ N) (hn : n ≤ 999999) (hw : w ≤ 999999) : ∀ (m k f : Nat), k + m = 6 → m < f → X11_isFigure_l4 N f (nI n) (nI w) (nI (df n w k)) (nI k) = some (b32 (decide (df n w 6 = 1) && decide (0 < w) && decide (nd n = nd w))) := by
  have hr := nd_range n
  have hr2 := nd_range w
  intro m
  induction m with
  | zero =>
    intro k f hk hf
    obtain ⟨f, rfl⟩ : ∃ q, f = q + 1 := ⟨f - 1, by omega⟩
    show X11_isFigure_b4 N (X11_isFigure_l4 N f) _ _ _ _ = _
    unfold X11_isFigure_b4 X11_isFigure_b37
    have : k = 6 := by omega
    subst this
    have hd := df_le n w 6
    rw [if_pos (show (6 : Int32) ≤ nI 6 from by decide), X11_figures_eq hN hn, X11_figures_eq hN hw]
    simp only [Option.bind_some]
    by_cases c : df n w 6 = 1
    · rw [if_pos (by rw [c]; rfl)]
      by_cases c2 : 0 < w
      · rw [if_neg (by rw [show (0 : Int32) = nI 0 from rfl, nI_leI (by omega) (by omega)]; omega)]
        by_cases c3 : nd n = nd w
        · rw [if_pos (by rw [c3])]; simp [c, c2, c3, b32]
        · rw [if_neg (by rw [nI_eq (by omega) (by omega)]; exact c3)]; simp [c3, b32]
      · rw [if_pos (by rw [show (0 : Int32) = nI 0 from rfl, nI_leI (by omega) (by omega)]; omega)]
        simp [c2, b32]
    · rw [if_neg (by rw [show (1 : Int32) = nI 1 from rfl, nI_eq (by omega) (by omega)]; exact c)]; simp [c, b32]
  | succ m ih =>
    intro k f hk hf
    obtain ⟨f, rfl⟩ : ∃ q, f = q + 1 := ⟨f - 1, by omega⟩
    show X11_isFigure_b4 N (X11_isFigure_l4 N f) _ _ _ _ = _
    have hi := ih (k + 1) f (by omega) (by omega)
    unfold X11_isFigure_b4 X11_isFigure_b29
    rw [if_neg (by rw [show (6 : Int32) = nI 6 from rfl, nI_leI (by omega) (by omega)]; omega), X11_figure_eq hN (by omega) (by omega), X11_figure_eq hN (by omega) (by omega)]
    simp only [Option.bind_some]
    rw [nI_1, nI_1]
    rw [df] at hi
    have h1 := dg_lt n k
    have h2 := dg_lt w k
    have hz : ∀ x : Int32, x + 0 = x := fun x => by simp
    by_cases c : dg n k = dg w k
    · rw [if_pos (by rw [c]), hz]
      rw [if_pos c] at hi
      exact hi
    · rw [if_neg (by rw [nI_eq (by omega) (by omega)]; exact c)]
      rw [if_neg c] at hi
      exact hi
theorem X11_isFigure_eq {N n w : Nat} (hN : 10 ≤ N) (hn : n ≤ 999999) (hw : w ≤ 999999) : X11_isFigure N (nI n) (nI w) = some (b32 (decide (df n w 6 = 1) && decide (0 < w) && decide (nd n = nd w))) :=
  X11_isFigure_l_eq hN hn hw 6 0 N rfl (by omega)
