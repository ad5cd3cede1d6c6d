/-! slips: the class lays turns and figures -/
theorem m1_lt {a k : Nat} (ha : a < 2 ^ 30) (hk : k < 2 ^ 30) : nI a - 1 < nI k ↔ a ≤ k := by
  have := pk_sub_toInt (a := a) (b := 1) (by omega) (by omega)
  have e : (nI a - 1).toInt = (a : Int) - 1 := this
  rw [Int32.lt_iff_toInt_lt, e, nI_toInt (by omega)]
  omega
theorem m1_neg {a : Nat} (ha : a < 2 ^ 30) : nI a - 1 < 0 ↔ a = 0 := by
  have := m1_lt (k := 0) ha (by omega)
  rw [show (0 : Int32) = nI 0 from rfl, this]; omega
theorem app_nil_len {L A B : List Sl} {m : Nat} (h : (L ++ (A ++ B)).length ≤ m) : (L ++ A).length ≤ m := by
  simp only [List.length_append] at *; omega
def pD (D : Dt) (j k : Nat) : List Sl := if tnN (D.sm j) k < D.sm j then ps D 0 j (tnN (D.sm j) k) (D.od j 0) else []
def pU (D : Dt) (j k : Nat) : List Sl := if D.sm j < tnN (D.sm j) k then ps D 0 j (tnN (D.sm j) k) (D.od j 0) else []
def dT (D : Dt) (j : Nat) : Nat → List Sl
  | 0 => []
  | k + 1 => pD D j k ++ dT D j k
def uT (D : Dt) (j k m : Nat) : List Sl := (List.range' k m).flatMap (pU D j)
def gT (D : Dt) (j : Nat) : List Sl := dT D j (nd (D.sm j) - 1) ++ uT D j 0 (nd (D.sm j) - 1)
theorem uT_s (D : Dt) (j k m : Nat) : uT D j k (m + 1) = pU D j k ++ uT D j (k + 1) m := by
  unfold uT; rw [List.range'_succ, List.flatMap_cons]
theorem tnN_lt {n k : Nat} (hn : n ≤ 999999) (hk : k < 6) : tnN n k < 2 ^ 31 := by
  have h := (tnN_b (n := n) hk).2.1
  have hp := m_p10b (show k < 7 by omega)
  omega
theorem c_turnsD {N j : Nat} {D : Dt} {v4 : Int32} (ok : okD D) (hj : j < D.1) : ∀ (m f : Nat) (L : List Sl) (S : aSt), m < f → m ≤ nd (D.sm j) - 1 → slC S L → lgC S D → (L ++ dT D j m).length ≤ 1921 → ∃ T, X8_putTurns_14_l12 N f (nI j) (nI (D.sm j)) (nI (D.od j 0)) v4 (nI m - 1) S = X8_putTurns_14_b46 N (nI j) (nI (D.sm j)) (nI (D.od j 0)) v4 T ∧ slC T (L ++ dT D j m) ∧ lgC T D := by
  have hn := (ok.sm hj).2.2
  have hr := nd_range (D.sm j)
  have ho := (ok.od (k := 0) hj (by omega)).2
  intro m
  induction m with
  | zero =>
    intro f L S hf hm hS hD hl
    obtain ⟨f, rfl⟩ : ∃ q, f = q + 1 := ⟨f - 1, by omega⟩
    refine ⟨S, ?_, by rw [dT, List.append_nil]; exact hS, hD⟩
    show X8_putTurns_14_b12 N (X8_putTurns_14_l12 N f) _ _ _ _ _ _ = _
    unfold X8_putTurns_14_b12
    rw [if_pos ((m1_neg (by omega)).mpr rfl)]
  | succ m ih =>
    intro f L S hf hm hS hD hl
    obtain ⟨f, rfl⟩ : ∃ q, f = q + 1 := ⟨f - 1, by omega⟩
    rw [dT] at hl ⊢
    have hl2 := app_nil_len hl
    rw [← List.append_assoc] at hl
    have hb := tnN_lt hn (show m < 6 by omega)
    have step : ∃ T1, slC T1 (L ++ pD D j m) ∧ lgC T1 D ∧ X8_putTurns_14_l12 N (f + 1) (nI j) (nI (D.sm j)) (nI (D.od j 0)) v4 (nI (m + 1) - 1) S = X8_putTurns_14_l12 N f (nI j) (nI (D.sm j)) (nI (D.od j 0)) v4 (nI m - 1) T1 := by
      unfold pD at hl2 ⊢
      by_cases c : tnN (D.sm j) m < D.sm j
      · rw [if_pos c] at hl2 ⊢
        obtain ⟨q1, q2⟩ := c_putSum (k := 0) hS hD ok hj hb (show D.od j 0 < 2 ^ 31 by omega) hl2
        refine ⟨_, q1, q2, ?_⟩
        show X8_putTurns_14_b12 N (X8_putTurns_14_l12 N f) _ _ _ _ _ _ = _
        unfold X8_putTurns_14_b12 X8_putTurns_14_b40
        rw [if_neg (by rw [m1_neg (by omega)]; omega), nI_pred, X0_turned_eq hn (by omega)]
        simp only [Option.bind_some, aLet]
        rw [tn_N hn (by omega), if_neg (by exact iNLE (D.sm j) (tnN (D.sm j) m) c), ← Int32.sub_eq_add_neg]
        rfl
      · rw [if_neg c] at hl2 ⊢
        refine ⟨S, by rw [List.append_nil]; exact hS, hD, ?_⟩
        show X8_putTurns_14_b12 N (X8_putTurns_14_l12 N f) _ _ _ _ _ _ = _
        unfold X8_putTurns_14_b12 X8_putTurns_14_b40
        rw [if_neg (by rw [m1_neg (by omega)]; omega), nI_pred, X0_turned_eq hn (by omega)]
        simp only [Option.bind_some, aLet]
        rw [tn_N hn (by omega), if_pos (by exact iLE (D.sm j) (tnN (D.sm j) m) (by omega)), ← Int32.sub_eq_add_neg]
    obtain ⟨T1, q1, q2, q3⟩ := step
    rw [← List.append_assoc, q3]
    exact ih f _ T1 (by omega) (by omega) q1 q2 hl
theorem c_turnsU {N j : Nat} {D : Dt} (ok : okD D) (hj : j < D.1) : ∀ (m k f : Nat) (L : List Sl) (S : aSt), k + m = nd (D.sm j) - 1 → m < f → slC S L → lgC S D → (L ++ uT D j k m).length ≤ 1921 → ∃ T, X8_putTurns_14_l49 N f (nI j) (nI (D.sm j)) (nI (D.od j 0)) (nI (nd (D.sm j) - 1) - 1) (nI k) S = some T ∧ slC T (L ++ uT D j k m) ∧ lgC T D := by
  have hn := (ok.sm hj).2.2
  have hr := nd_range (D.sm j)
  have ho := (ok.od (k := 0) hj (by omega)).2
  intro m
  induction m with
  | zero =>
    intro k f L S hk hf hS hD hl
    obtain ⟨f, rfl⟩ : ∃ q, f = q + 1 := ⟨f - 1, by omega⟩
    refine ⟨S, ?_, by unfold uT; simp only [List.range'_zero, List.flatMap_nil, List.append_nil]; exact hS, hD⟩
    show X8_putTurns_14_b49 N (X8_putTurns_14_l49 N f) _ _ _ _ _ _ = _
    unfold X8_putTurns_14_b49
    rw [if_pos ((m1_lt (by omega) (by omega)).mpr (by omega))]
  | succ m ih =>
    intro k f L S hk hf hS hD hl
    obtain ⟨f, rfl⟩ : ∃ q, f = q + 1 := ⟨f - 1, by omega⟩
    rw [uT_s] at hl ⊢
    have hl2 := app_nil_len hl
    rw [← List.append_assoc] at hl
    have hb := tnN_lt hn (show k < 6 by omega)
    have step : ∃ T1, slC T1 (L ++ pU D j k) ∧ lgC T1 D ∧ X8_putTurns_14_l49 N (f + 1) (nI j) (nI (D.sm j)) (nI (D.od j 0)) (nI (nd (D.sm j) - 1) - 1) (nI k) S = X8_putTurns_14_l49 N f (nI j) (nI (D.sm j)) (nI (D.od j 0)) (nI (nd (D.sm j) - 1) - 1) (nI (k + 1)) T1 := by
      unfold pU at hl2 ⊢
      by_cases c : D.sm j < tnN (D.sm j) k
      · rw [if_pos c] at hl2 ⊢
        obtain ⟨q1, q2⟩ := c_putSum (k := 0) hS hD ok hj hb (show D.od j 0 < 2 ^ 31 by omega) hl2
        refine ⟨_, q1, q2, ?_⟩
        show X8_putTurns_14_b49 N (X8_putTurns_14_l49 N f) _ _ _ _ _ _ = _
        unfold X8_putTurns_14_b49 X8_putTurns_14_b79
        rw [if_neg (by rw [m1_lt (by omega) (by omega)]; omega), X0_turned_eq hn (by omega)]
        simp only [Option.bind_some, aLet]
        rw [tn_N hn (by omega), if_neg (by exact iNLE (tnN (D.sm j) k) (D.sm j) c), nI_1]
        rfl
      · rw [if_neg c] at hl2 ⊢
        refine ⟨S, by rw [List.append_nil]; exact hS, hD, ?_⟩
        show X8_putTurns_14_b49 N (X8_putTurns_14_l49 N f) _ _ _ _ _ _ = _
        unfold X8_putTurns_14_b49 X8_putTurns_14_b79
        rw [if_neg (by rw [m1_lt (by omega) (by omega)]; omega), X0_turned_eq hn (by omega)]
        simp only [Option.bind_some, aLet]
        rw [tn_N hn (by omega), if_pos (by exact iLE (tnN (D.sm j) k) (D.sm j) (by omega)), nI_1]
    obtain ⟨T1, q1, q2, q3⟩ := step
    rw [← List.append_assoc, q3]
    exact ih (k + 1) f _ T1 (by omega) (by omega) q1 q2 hl
theorem c_turns {N j : Nat} {D : Dt} {L : List Sl} {S : aSt} (hN : 10 ≤ N) (ok : okD D) (hj : j < D.1) (hS : slC S L) (hD : lgC S D) (hl : (L ++ gT D j).length ≤ 1921) : ∃ T, X8_putTurns_14 N (nI j) (nI (D.sm j)) (nI (D.od j 0)) S = some T ∧ slC T (L ++ gT D j) ∧ lgC T D := by
  have hn := (ok.sm hj).2.2
  have hr := nd_range (D.sm j)
  unfold gT at hl ⊢
  have e2 : nI (nd (D.sm j)) - (2 : Int32) = nI (nd (D.sm j) - 1) - 1 := by
    rw [← pk_sub (by omega : 1 ≤ nd (D.sm j)), show (2 : Int32) = nI 1 + 1 from rfl]
    simp only [Int32.sub_eq_add_neg, Int32.neg_add, Int32.add_assoc]
  obtain ⟨T1, a1, a2, a3⟩ := c_turnsD (N := N) (v4 := nI (nd (D.sm j) - 1) - 1) ok hj (nd (D.sm j) - 1) N L S (by omega) (Nat.le_refl _) hS hD (app_nil_len hl)
  rw [← List.append_assoc] at hl
  obtain ⟨T2, b1, b2, b3⟩ := c_turnsU (N := N) ok hj (nd (D.sm j) - 1) 0 N _ T1 (by omega) (by omega) a2 a3 hl
  refine ⟨T2, ?_, by rw [← List.append_assoc]; exact b2, b3⟩
  unfold X8_putTurns_14
  rw [X0_many_eq hN hn]
  simp only [Option.bind_some]
  rw [e2, a1]
  exact b1
