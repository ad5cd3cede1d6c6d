def figN (n k x : Nat) : Nat := n + x * 10 ^ k - dg n k * 10 ^ k
theorem figN_I {n k x : Nat} : nI n + (nI x - nI (dg n k)) * nI (10 ^ k) = nI (figN n k x) := by
  have h1 := dg_ge n k
  unfold figN
  rw [← pk_sub (by omega), ← nI_add, Int32.sub_mul]
  simp only [Int32.sub_eq_add_neg, Int32.add_assoc, pk_mul]
theorem figN_lt {n k x : Nat} (hn : n ≤ 999999) (hk : k < 7) (hx : x < 10) : figN n k x < 2 ^ 31 := by
  have hp := m_p10b hk
  have : x * 10 ^ k ≤ 9 * 10 ^ k := Nat.mul_le_mul_right _ (by omega)
  unfold figN
  omega
def pF (D : Dt) (j k x : Nat) : List Sl := ps D 1 j (figN (D.sm j) k x) (D.od j 1 * D.rd x (dg (D.sm j) k))
def x0 (n k : Nat) : Nat := if k + 1 = nd n then 1 else 0
def rF (D : Dt) (j k x m : Nat) : List Sl := (List.range' x m).flatMap (pF D j k)
def lF (D : Dt) (j k : Nat) : List Sl := rF D j k (x0 (D.sm j) k) (dg (D.sm j) k - x0 (D.sm j) k)
def hF (D : Dt) (j k : Nat) : List Sl := rF D j k (dg (D.sm j) k + 1) (9 - dg (D.sm j) k)
def dF (D : Dt) (j : Nat) : Nat → List Sl
  | 0 => []
  | k + 1 => lF D j k ++ dF D j k
def uF (D : Dt) (j k m : Nat) : List Sl := (List.range' k m).flatMap (hF D j)
def gF (D : Dt) (j : Nat) : List Sl := dF D j (nd (D.sm j)) ++ uF D j 0 (nd (D.sm j))
theorem rF_s (D : Dt) (j k x m : Nat) : rF D j k x (m + 1) = pF D j k x ++ rF D j k (x + 1) m := by
  unfold rF; rw [List.range'_succ, List.flatMap_cons]
theorem uF_s (D : Dt) (j k m : Nat) : uF D j k (m + 1) = hF D j k ++ uF D j (k + 1) m := by
  unfold uF; rw [List.range'_succ, List.flatMap_cons]
theorem c_read {S : aSt} {D : Dt} (hD : lgC S D) (ok : okD D) {x y : Nat} (hx : x < 10) (hy : y < 10) : X2_readOf_8 (nI x) (nI y) S = nI (D.rd x y) := by
  unfold X2_readOf_8 X6_at_11
  simp only [aLet]
  have e : nI x * (10 : Int32) + nI y = nI (10 * x + y) := by
    show nI x * nI 10 + nI y = _
    rw [pk_mul, nI_add, Nat.mul_comm]
  rw [e, if_neg (nI_pos (by omega)), if_neg (by exact iNLE 100 (10 * x + y) (by omega)), nI_clamp (by omega), hD.2.2.2.1, (ok.rd hx hy).1]
theorem X0_tens_eq {k : Nat} (h : k < 7) : X0_tens (nI k) = nI (10 ^ k) := by
  unfold X0_tens
  exact X6_at_1001_eq h
theorem c_fig {N j k x : Nat} {D : Dt} {S : aSt} {L : List Sl} (ok : okD D) (hj : j < D.1) (hk : k < 7) (hx : x < 10) (hS : slC S L) (hD : lgC S D) (hl : (L ++ pF D j k x).length ≤ 1921) : X0_tens (nI k) = nI (10 ^ k) ∧ X2_readOf_8 (nI x) (nI (dg (D.sm j) k)) S = nI (D.rd x (dg (D.sm j) k)) ∧ slC (X8_putSum_14 (1 : Int32) (nI j) (nI (D.sm j) + (nI x - nI (dg (D.sm j) k)) * nI (10 ^ k)) (nI (D.od j 1) * nI (D.rd x (dg (D.sm j) k))) S) (L ++ pF D j k x) ∧ lgC (X8_putSum_14 (1 : Int32) (nI j) (nI (D.sm j) + (nI x - nI (dg (D.sm j) k)) * nI (10 ^ k)) (nI (D.od j 1) * nI (D.rd x (dg (D.sm j) k))) S) D := by
  have hn := (ok.sm hj).2.2
  have h4 := dg_lt (D.sm j) k
  have ho := (ok.od (k := 1) hj (by omega)).2
  have hr := (ok.rd hx h4).2
  refine ⟨X0_tens_eq hk, c_read hD ok hx h4, ?_⟩
  rw [figN_I, pk_mul]
  have hw : D.od j 1 * D.rd x (dg (D.sm j) k) ≤ 99 * 99 := Nat.mul_le_mul ho hr
  exact c_putSum (k := 1) hS hD ok hj (figN_lt hn hk hx) (by omega) hl
theorem c_figL {N j k : Nat} {D : Dt} {v4 : Int32} {rec12 : Int32 → Int32 → Int32 → Int32 → Int32 → aSt → Option aSt} (ok : okD D) (hj : j < D.1) (hk : k < 7) : ∀ (m x f : Nat) (L : List Sl) (S : aSt), m = dg (D.sm j) k - x → m < f → x < 10 → slC S L → lgC S D → (L ++ rF D j k x m).length ≤ 1921 → ∃ T, X8_putFigures_14_l39 N rec12 f (nI j) (nI (D.sm j)) (nI (D.od j 1)) v4 (nI k) (nI (dg (D.sm j) k)) (nI x) S = rec12 (nI j) (nI (D.sm j)) (nI (D.od j 1)) v4 (nI k + (-1)) T ∧ slC T (L ++ rF D j k x m) ∧ lgC T D := by
  have h4 := dg_lt (D.sm j) k
  intro m
  induction m with
  | zero =>
    intro x f L S hm hf hx hS hD hl
    obtain ⟨f, rfl⟩ : ∃ q, f = q + 1 := ⟨f - 1, by omega⟩
    refine ⟨S, ?_, by unfold rF; simp only [List.range'_zero, List.flatMap_nil, List.append_nil]; exact hS, hD⟩
    show X8_putFigures_14_b39 N rec12 (X8_putFigures_14_l39 N rec12 f) _ _ _ _ _ _ _ _ = _
    unfold X8_putFigures_14_b39 X8_putFigures_14_b88
    rw [if_pos (by exact iLE (dg (D.sm j) k) x (by omega))]
  | succ m ih =>
    intro x f L S hm hf hx hS hD hl
    obtain ⟨f, rfl⟩ : ∃ q, f = q + 1 := ⟨f - 1, by omega⟩
    rw [rF_s] at hl ⊢
    have hl2 := app_nil_len hl
    rw [← List.append_assoc] at hl
    obtain ⟨q0, q1, q2, q3⟩ := c_fig (N := N) ok hj hk hx hS hD hl2
    obtain ⟨T, a1, a2, a3⟩ := ih (x + 1) f _ _ (by omega) (by omega) (by omega) q2 q3 hl
    refine ⟨T, ?_, by rw [← List.append_assoc]; exact a2, a3⟩
    show X8_putFigures_14_b39 N rec12 (X8_putFigures_14_l39 N rec12 f) _ _ _ _ _ _ _ _ = _
    unfold X8_putFigures_14_b39
    rw [if_neg (by exact iNLE (dg (D.sm j) k) x (by omega))]
    simp only [aLet]
    rw [q0, q1, nI_1]
    exact a1
theorem c_figH {N j k : Nat} {D : Dt} {v4 : Int32} {rec97 : Int32 → Int32 → Int32 → Int32 → Int32 → aSt → Option aSt} (ok : okD D) (hj : j < D.1) (hk : k < 7) : ∀ (m x f : Nat) (L : List Sl) (S : aSt), x + m = 10 → m < f → slC S L → lgC S D → (L ++ rF D j k x m).length ≤ 1921 → ∃ T, X8_putFigures_14_l118 N rec97 f (nI j) (nI (D.sm j)) (nI (D.od j 1)) v4 (nI k) (nI (dg (D.sm j) k)) (nI x) S = rec97 (nI j) (nI (D.sm j)) (nI (D.od j 1)) v4 (nI (k + 1)) T ∧ slC T (L ++ rF D j k x m) ∧ lgC T D := by
  intro m
  induction m with
  | zero =>
    intro x f L S hm hf hS hD hl
    obtain ⟨f, rfl⟩ : ∃ q, f = q + 1 := ⟨f - 1, by omega⟩
    refine ⟨S, ?_, by unfold rF; simp only [List.range'_zero, List.flatMap_nil, List.append_nil]; exact hS, hD⟩
    show X8_putFigures_14_b118 N rec97 (X8_putFigures_14_l118 N rec97 f) _ _ _ _ _ _ _ _ = _
    unfold X8_putFigures_14_b118 X8_putFigures_14_b167
    rw [if_pos (by exact iLT 9 x (by omega)), nI_1]
  | succ m ih =>
    intro x f L S hm hf hS hD hl
    obtain ⟨f, rfl⟩ : ∃ q, f = q + 1 := ⟨f - 1, by omega⟩
    rw [rF_s] at hl ⊢
    have hl2 := app_nil_len hl
    rw [← List.append_assoc] at hl
    obtain ⟨q0, q1, q2, q3⟩ := c_fig (N := N) ok hj hk (by omega) hS hD hl2
    obtain ⟨T, a1, a2, a3⟩ := ih (x + 1) f _ _ (by omega) (by omega) q2 q3 hl
    refine ⟨T, ?_, by rw [← List.append_assoc]; exact a2, a3⟩
    show X8_putFigures_14_b118 N rec97 (X8_putFigures_14_l118 N rec97 f) _ _ _ _ _ _ _ _ = _
    unfold X8_putFigures_14_b118
    rw [if_neg (by exact iNLT 9 x (by omega))]
    simp only [aLet]
    rw [q0, q1, nI_1]
    exact a1
theorem c_figD {N j : Nat} {D : Dt} (hN : 20 ≤ N) (ok : okD D) (hj : j < D.1) : ∀ (m f : Nat) (L : List Sl) (S : aSt), m < f → m ≤ nd (D.sm j) → slC S L → lgC S D → (L ++ dF D j m).length ≤ 1921 → ∃ T, X8_putFigures_14_l12 N f (nI j) (nI (D.sm j)) (nI (D.od j 1)) (nI (nd (D.sm j)) - 1) (nI m - 1) S = X8_putFigures_14_b94 N (nI j) (nI (D.sm j)) (nI (D.od j 1)) (nI (nd (D.sm j)) - 1) T ∧ slC T (L ++ dF D j m) ∧ lgC T D := by
  have hn := (ok.sm hj).2.2
  have hr := nd_range (D.sm j)
  have e1 : nI (nd (D.sm j)) - 1 = nI (nd (D.sm j) - 1) := pk_sub (b := 1) (by omega)
  intro m
  induction m with
  | zero =>
    intro f L S hf hm hS hD hl
    obtain ⟨f, rfl⟩ : ∃ q, f = q + 1 := ⟨f - 1, by omega⟩
    refine ⟨S, ?_, by rw [dF, List.append_nil]; exact hS, hD⟩
    show X8_putFigures_14_b12 N (X8_putFigures_14_l12 N f) _ _ _ _ _ _ = _
    unfold X8_putFigures_14_b12
    rw [if_pos ((m1_neg (by omega)).mpr rfl)]
  | succ m ih =>
    intro f L S hf hm hS hD hl
    obtain ⟨f, rfl⟩ : ∃ q, f = q + 1 := ⟨f - 1, by omega⟩
    rw [dF] at hl ⊢
    have hl2 := app_nil_len hl
    rw [← List.append_assoc] at hl
    have h4 := dg_lt (D.sm j) m
    have hx : x0 (D.sm j) m ≤ 1 := by unfold x0; split <;> omega
    obtain ⟨T1, a1, a2, a3⟩ := c_figL (N := N) (k := m) (v4 := nI (nd (D.sm j)) - 1) (rec12 := X8_putFigures_14_l12 N f) ok hj (by omega) _ (x0 (D.sm j) m) N L S rfl (by omega) (by omega) hS hD hl2
    obtain ⟨T, b1, b2, b3⟩ := ih f _ T1 (by omega) (by omega) a2 a3 hl
    refine ⟨T, ?_, by rw [← List.append_assoc]; exact b2, b3⟩
    rw [← b1]
    rw [← Int32.sub_eq_add_neg] at a1
    rw [← a1]
    show X8_putFigures_14_b12 N (X8_putFigures_14_l12 N f) _ _ _ _ _ _ = _
    unfold X8_putFigures_14_b12 X8_putFigures_14_b37
    rw [if_neg (by rw [m1_neg (by omega)]; omega), nI_pred, X0_at_eq (by omega) (by omega)]
    simp only [Option.bind_some]
    unfold x0
    by_cases c : m + 1 = nd (D.sm j)
    · rw [if_pos (by rw [e1, ← c]; rfl), if_pos c]; rfl
    · rw [if_neg (by rw [e1]; exact iNE m (nd (D.sm j) - 1) (by omega)), if_neg c]; rfl
theorem c_figU {N j : Nat} {D : Dt} (hN : 20 ≤ N) (ok : okD D) (hj : j < D.1) : ∀ (m k f : Nat) (L : List Sl) (S : aSt), k + m = nd (D.sm j) → m < f → slC S L → lgC S D → (L ++ uF D j k m).length ≤ 1921 → ∃ T, X8_putFigures_14_l97 N f (nI j) (nI (D.sm j)) (nI (D.od j 1)) (nI (nd (D.sm j)) - 1) (nI k) S = some T ∧ slC T (L ++ uF D j k m) ∧ lgC T D := by
  have hn := (ok.sm hj).2.2
  have hr := nd_range (D.sm j)
  intro m
  induction m with
  | zero =>
    intro k f L S hk hf hS hD hl
    obtain ⟨f, rfl⟩ : ∃ q, f = q + 1 := ⟨f - 1, by omega⟩
    refine ⟨S, ?_, by unfold uF; simp only [List.range'_zero, List.flatMap_nil, List.append_nil]; exact hS, hD⟩
    show X8_putFigures_14_b97 N (X8_putFigures_14_l97 N f) _ _ _ _ _ _ = _
    unfold X8_putFigures_14_b97
    rw [if_pos ((m1_lt (by omega) (by omega)).mpr (by omega))]
  | succ m ih =>
    intro k f L S hk hf hS hD hl
    obtain ⟨f, rfl⟩ : ∃ q, f = q + 1 := ⟨f - 1, by omega⟩
    rw [uF_s] at hl ⊢
    have hl2 := app_nil_len hl
    rw [← List.append_assoc] at hl
    have h4 := dg_lt (D.sm j) k
    obtain ⟨T1, a1, a2, a3⟩ := c_figH (N := N) (k := k) (v4 := nI (nd (D.sm j)) - 1) (rec97 := X8_putFigures_14_l97 N f) ok hj (by omega) (9 - dg (D.sm j) k) (dg (D.sm j) k + 1) N L S (by omega) (by omega) hS hD hl2
    obtain ⟨T, b1, b2, b3⟩ := ih (k + 1) f _ T1 (by omega) (by omega) a2 a3 hl
    refine ⟨T, ?_, by rw [← List.append_assoc]; exact b2, b3⟩
    rw [← b1, ← a1]
    show X8_putFigures_14_b97 N (X8_putFigures_14_l97 N f) _ _ _ _ _ _ = _
    unfold X8_putFigures_14_b97
    rw [if_neg (by rw [m1_lt (by omega) (by omega)]; omega), X0_at_eq (by omega) (by omega)]
    simp only [Option.bind_some]
    rw [nI_1]
theorem c_figs {N j : Nat} {D : Dt} {L : List Sl} {S : aSt} (hN : 20 ≤ N) (ok : okD D) (hj : j < D.1) (hS : slC S L) (hD : lgC S D) (hl : (L ++ gF D j).length ≤ 1921) : ∃ T, X8_putFigures_14 N (nI j) (nI (D.sm j)) (nI (D.od j 1)) S = some T ∧ slC T (L ++ gF D j) ∧ lgC T D := by
  have hn := (ok.sm hj).2.2
  have hr := nd_range (D.sm j)
  unfold gF at hl ⊢
  obtain ⟨T1, a1, a2, a3⟩ := c_figD (N := N) hN ok hj (nd (D.sm j)) N L S (by omega) (Nat.le_refl _) hS hD (app_nil_len hl)
  rw [← List.append_assoc] at hl
  obtain ⟨T2, b1, b2, b3⟩ := c_figU (N := N) hN ok hj (nd (D.sm j)) 0 N _ T1 (by omega) (by omega) a2 a3 hl
  refine ⟨T2, ?_, by rw [← List.append_assoc]; exact b2, b3⟩
  unfold X8_putFigures_14
  rw [X0_many_eq (by omega) hn]
  simp only [Option.bind_some]
  rw [a1]
  exact b1
