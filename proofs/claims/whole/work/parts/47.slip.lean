/-! slips: what is laid, as a list -/
theorem iLE {x y : Int32} (a b : Nat) (h : a ≤ b) (hx : x = nI a := by rfl) (hy : y = nI b := by rfl) (hb : b < 2 ^ 31 := by omega) : x ≤ y := by
  subst hx hy; exact (nI_leI (by omega) hb).mpr h
theorem iNLE {x y : Int32} (a b : Nat) (h : b < a) (hx : x = nI a := by rfl) (hy : y = nI b := by rfl) (hb : a < 2 ^ 31 := by omega) : ¬ x ≤ y := by
  subst hx hy; rw [nI_leI hb (by omega)]; omega
theorem iLT {x y : Int32} (a b : Nat) (h : a < b) (hx : x = nI a := by rfl) (hy : y = nI b := by rfl) (hb : b < 2 ^ 31 := by omega) : x < y := by
  subst hx hy; exact (nI_ltI (by omega) hb).mpr h
theorem iNLT {x y : Int32} (a b : Nat) (h : b ≤ a) (hx : x = nI a := by rfl) (hy : y = nI b := by rfl) (hb : a < 2 ^ 31 := by omega) : ¬ x < y := by
  subst hx hy; rw [nI_ltI (by omega) (by omega)]; omega
theorem iNE {x y : Int32} (a b : Nat) (h : a ≠ b) (hx : x = nI a := by rfl) (hy : y = nI b := by rfl) (ha : a < 2 ^ 31 := by omega) (hb : b < 2 ^ 31 := by omega) : ¬ x = y := by
  subst hx hy; rw [nI_eq ha hb]; exact h
abbrev Sl : Type := Nat × Nat × Nat × Int32 × Nat
def sl0 : Sl := ⟨0, 0, 0, 0, 0⟩
def okS (x : Sl) : Prop := x.1 < 2 ^ 31 ∧ x.2.1 < 2 ^ 31 ∧ x.2.2.1 < 2 ^ 31 ∧ x.2.2.2.2 < 2 ^ 31
def rows (A B C D E : Nat → Int32) (L : List Sl) : Prop := ∀ i, i < L.length → A i = nI (L.getD i sl0).1 ∧ B i = nI (L.getD i sl0).2.1 ∧ C i = nI (L.getD i sl0).2.2.1 ∧ D i = (L.getD i sl0).2.2.2.1 ∧ E i = nI (L.getD i sl0).2.2.2.2
theorem getD_l {α : Type} {A B : List α} {i : Nat} {d : α} (h : i < A.length) : (A ++ B).getD i d = A.getD i d := by
  rw [List.getD_eq_getElem?_getD, List.getD_eq_getElem?_getD, List.getElem?_append_left h]
theorem getD_r {α : Type} {A B : List α} {i : Nat} {d : α} (h : A.length ≤ i) : (A ++ B).getD i d = B.getD (i - A.length) d := by
  rw [List.getD_eq_getElem?_getD, List.getD_eq_getElem?_getD, List.getElem?_append_right h]
theorem getD_c {α : Type} {B : List α} {x d : α} {i : Nat} : (x :: B).getD (i + 1) d = B.getD i d := rfl
theorem getD_0 {α : Type} {B : List α} {x d : α} : (x :: B).getD 0 d = x := rfl
theorem getD_mem {α : Type} {A : List α} {i : Nat} {d : α} (h : i < A.length) : A.getD i d ∈ A := by
  rw [List.getD_eq_getElem?_getD, List.getElem?_eq_getElem h]
  exact List.getElem_mem h
theorem rows_app {A B C D E : Nat → Int32} {L : List Sl} {x : Sl} (h : rows A B C D E L) : rows (upd A L.length (nI x.1)) (upd B L.length (nI x.2.1)) (upd C L.length (nI x.2.2.1)) (upd D L.length x.2.2.2.1) (upd E L.length (nI x.2.2.2.2)) (L ++ [x]) := by
  intro i hi
  rw [List.length_append, List.length_singleton] at hi
  simp only [gU]
  by_cases c : i = L.length
  · subst c
    rw [getD_r (Nat.le_refl _), Nat.sub_self]
    simp only [if_true]
    exact ⟨rfl, rfl, rfl, rfl, rfl⟩
  · rw [getD_l (by omega)]
    simp only [if_neg c]
    exact h i (by omega)
def pc (k p s : Nat) (c : Int32) (w : Nat) : List Sl := if w = 0 then [] else [⟨k, p, s, c, w⟩]
/-- what the slips are made of -/
abbrev Dt : Type := Nat × (Nat → Int32) × (Nat → Int32) × (Nat → Int32) × Int32 × Int32
def okD (D : Dt) : Prop := D.1 ≤ 30 ∧ okP D.2.1 D.1 ∧ (∀ i, i < 20 → is99 (D.2.2.1 i)) ∧ (∀ i, i < 100 → is99 (D.2.2.2.1 i)) ∧ is99 D.2.2.2.2.1 ∧ is99 D.2.2.2.2.2
def slC (S : aSt) (L : List Sl) : Prop := S.1 14 0 = nI L.length ∧ rows (S.2.2 15) (S.2.2 16) (S.2.2 17) (S.2.2 18) (S.2.2 19) L
def slR (S : aSt) (L : List Sl) : Prop := S.1 42 23 = nI L.length ∧ rows (S.2.2 50) (S.2.2 51) (S.2.2 52) (S.2.2 53) (S.2.2 54) L
def lgC (S : aSt) (D : Dt) : Prop := S.1 8 0 = nI D.1 ∧ S.2.2 9 = D.2.1 ∧ S.2.2 10 = D.2.2.1 ∧ S.2.2 11 = D.2.2.2.1 ∧ S.1 8 1 = D.2.2.2.2.1 ∧ S.1 8 2 = D.2.2.2.2.2
def lgR (S : aSt) (D : Dt) : Prop := S.1 42 5 = nI D.1 ∧ (∀ i, i < 5 * D.1 → S.2.2 45 i = D.2.1 i) ∧ (∀ i, i < 20 → S.2.2 47 i = D.2.2.1 i) ∧ (∀ i, i < 100 → S.2.2 48 i = D.2.2.2.1 i) ∧ S.1 42 10 = D.2.2.2.2.1 ∧ S.1 42 11 = D.2.2.2.2.2
theorem lgC.fr {W : aWr} {S T : aSt} {D : Dt} (h : lgC S D) (f : aFr W S T) (q : (8, 0) ∉ W.1 ∧ 9 ∉ W.2.2 ∧ 10 ∉ W.2.2 ∧ 11 ∉ W.2.2 ∧ (8, 1) ∉ W.1 ∧ (8, 2) ∉ W.1) : lgC T D := by
  obtain ⟨q1, q2, q3, q4, q5, q6⟩ := q
  unfold lgC
  rw [f.1 _ _ q1, f.2.2 _ q2, f.2.2 _ q3, f.2.2 _ q4, f.1 _ _ q5, f.1 _ _ q6]
  exact h
theorem lgR.fr {W : aWr} {S T : aSt} {D : Dt} (h : lgR S D) (f : aFr W S T) (q : (42, 5) ∉ W.1 ∧ 45 ∉ W.2.2 ∧ 47 ∉ W.2.2 ∧ 48 ∉ W.2.2 ∧ (42, 10) ∉ W.1 ∧ (42, 11) ∉ W.1) : lgR T D := by
  obtain ⟨q1, q2, q3, q4, q5, q6⟩ := q
  unfold lgR
  rw [f.1 _ _ q1, f.2.2 _ q2, f.2.2 _ q3, f.2.2 _ q4, f.1 _ _ q5, f.1 _ _ q6]
  exact h
theorem X6_set_15_eq {S : aSt} {t : Nat} {x : Int32} (h : t < 1921) : X6_set_15 (nI t) x S = aA S 15 (upd (S.2.2 15) t x) := by
  unfold X6_set_15; rw [if_neg (nI_pos (by omega)), if_neg (by exact iNLE 1921 t h), nI_clamp (by omega)]
theorem X6_set_16_eq {S : aSt} {t : Nat} {x : Int32} (h : t < 1921) : X6_set_16 (nI t) x S = aA S 16 (upd (S.2.2 16) t x) := by
  unfold X6_set_16; rw [if_neg (nI_pos (by omega)), if_neg (by exact iNLE 1921 t h), nI_clamp (by omega)]
theorem X6_set_17_eq {S : aSt} {t : Nat} {x : Int32} (h : t < 1921) : X6_set_17 (nI t) x S = aA S 17 (upd (S.2.2 17) t x) := by
  unfold X6_set_17; rw [if_neg (nI_pos (by omega)), if_neg (by exact iNLE 1921 t h), nI_clamp (by omega)]
theorem X6_set_18_eq {S : aSt} {t : Nat} {x : Int32} (h : t < 1921) : X6_set_18 (nI t) x S = aA S 18 (upd (S.2.2 18) t x) := by
  unfold X6_set_18; rw [if_neg (nI_pos (by omega)), if_neg (by exact iNLE 1921 t h), nI_clamp (by omega)]
theorem X6_set_19_eq {S : aSt} {t : Nat} {x : Int32} (h : t < 1921) : X6_set_19 (nI t) x S = aA S 19 (upd (S.2.2 19) t x) := by
  unfold X6_set_19; rw [if_neg (nI_pos (by omega)), if_neg (by exact iNLE 1921 t h), nI_clamp (by omega)]
theorem pc_len (k p s : Nat) (c : Int32) (w : Nat) : (pc k p s c w).length ≤ 1 := by unfold pc; split <;> simp
theorem X8_put_eq {S : aSt} {L : List Sl} {D : Dt} (hS : slC S L) (hD : lgC S D) {k p s w : Nat} {c : Int32} (hw : w < 2 ^ 31) (hl : (L ++ pc k p s c w).length ≤ 1921) : slC (X8_put_14 (nI k) (nI p) (nI s) c (nI w) S) (L ++ pc k p s c w) ∧ lgC (X8_put_14 (nI k) (nI p) (nI s) c (nI w) S) D := by
  refine ⟨?_, hD.fr (F_X8_put_14 _ _ _ _ _ _ rfl) (by decide)⟩
  obtain ⟨h1, h2⟩ := hS
  unfold X8_put_14 pc
  unfold pc at hl
  by_cases c0 : w = 0
  · subst c0
    rw [if_pos (by exact iLE 0 0 (Nat.le_refl 0)), if_pos rfl, List.append_nil]
    exact ⟨h1, h2⟩
  · rw [if_neg c0, List.length_append, List.length_singleton] at hl
    rw [if_neg (by exact iNLE w 0 (by omega)), if_neg c0, h1, if_pos (by exact iLT L.length 1921 (by omega))]
    simp only [aLet]
    rw [X6_set_15_eq (by omega)]
    simp only [gAi, h1]
    rw [X6_set_16_eq (by omega)]
    simp only [gAi, h1]
    rw [X6_set_17_eq (by omega)]
    simp only [gAi, h1]
    rw [X6_set_18_eq (by omega)]
    simp only [gAi, h1]
    rw [X6_set_19_eq (by omega)]
    simp only [gAi, h1]
    refine ⟨?_, ?_⟩
    · rw [gI, if_pos ⟨rfl, rfl⟩, nI_1, List.length_append, List.length_singleton]
    · exact rows_app (x := ⟨k, p, s, c, w⟩) h2
def Dt.sm (D : Dt) (j : Nat) : Nat := (D.2.1 (5 * j + 1)).toNatClampNeg
def Dt.hd (D : Dt) (j : Nat) : Nat := (D.2.1 (5 * j + 3)).toNatClampNeg
def Dt.od (D : Dt) (j k : Nat) : Nat := (D.2.2.1 (5 * D.hd j + k)).toNatClampNeg
def Dt.rd (D : Dt) (x y : Nat) : Nat := (D.2.2.2.1 (10 * x + y)).toNatClampNeg
theorem okD.sm {D : Dt} (h : okD D) {j : Nat} (hj : j < D.1) : D.2.1 (5 * j + 1) = nI (D.sm j) ∧ 1 ≤ D.sm j ∧ D.sm j ≤ 999999 := by
  obtain ⟨n, h1, h2, h3⟩ := (h.2.1 j hj).2.1
  have e : D.sm j = n := by unfold Dt.sm; rw [h3, nI_clamp (by omega)]
  rw [e]; exact ⟨h3, h1, h2⟩
theorem okD.hd {D : Dt} (h : okD D) {j : Nat} (hj : j < D.1) : D.2.1 (5 * j + 3) = nI (D.hd j) ∧ D.hd j < 4 := by
  obtain ⟨n, h1, h3⟩ := (h.2.1 j hj).2.2.2.1
  have e : D.hd j = n := by unfold Dt.hd; rw [h3, nI_clamp (by omega)]
  rw [e]; exact ⟨h3, h1⟩
theorem okD.od {D : Dt} (h : okD D) {j k : Nat} (hj : j < D.1) (hk : k < 5) : D.2.2.1 (5 * D.hd j + k) = nI (D.od j k) ∧ D.od j k ≤ 99 := by
  have h4 := (h.hd hj).2
  obtain ⟨n, h1, h3⟩ := h.2.2.1 (5 * D.hd j + k) (by omega)
  have e : D.od j k = n := by unfold Dt.od; rw [h3, nI_clamp (by omega)]
  rw [e]; exact ⟨h3, h1⟩
theorem okD.rd {D : Dt} (h : okD D) {x y : Nat} (hx : x < 10) (hy : y < 10) : D.2.2.2.1 (10 * x + y) = nI (D.rd x y) ∧ D.rd x y ≤ 99 := by
  obtain ⟨n, h1, h3⟩ := h.2.2.2.1 (10 * x + y) (by omega)
  have e : D.rd x y = n := by unfold Dt.rd; rw [h3, nI_clamp (by omega)]
  rw [e]; exact ⟨h3, h1⟩
def chg (D : Dt) (j s : Nat) : Int32 := if D.2.1 (5 * j) = 0 then nI s - D.2.1 (5 * j + 1) else D.2.1 (5 * j + 1) - nI s
def ps (D : Dt) (k j s w : Nat) : List Sl := if s = 0 then [] else pc k j s (chg D j s) w
theorem c_told {S : aSt} {D : Dt} (hD : lgC S D) (ok : okD D) {j w : Nat} (hj : j < D.1) (hw : w < 5) : X2_told_8 (nI j) (nI w) S = D.2.1 (5 * j + w) := by
  have := ok.1
  rw [X2_told_eq (by omega), hD.2.1]
theorem c_odds {S : aSt} {D : Dt} (hD : lgC S D) (ok : okD D) {j k : Nat} (hj : j < D.1) (hk : k < 5) : X8_oddsAt_14 (nI j) (nI k) S = nI (D.od j k) := by
  unfold X8_oddsAt_14
  simp only [aLet]
  have h3 : X2_told_8 (nI j) (3 : Int32) S = D.2.1 (5 * j + 3) := c_told (w := 3) hD ok hj (by omega)
  rw [h3, (ok.hd hj).1, X2_oddsOf_eq (ok.hd hj).2 hk, hD.2.2.1, (ok.od hj hk).1]
theorem c_putSum {S : aSt} {L : List Sl} {D : Dt} (hS : slC S L) (hD : lgC S D) (ok : okD D) {k j s w : Nat} (hj : j < D.1) (hs : s < 2 ^ 31) (hw : w < 2 ^ 31) (hl : (L ++ ps D k j s w).length ≤ 1921) : slC (X8_putSum_14 (nI k) (nI j) (nI s) (nI w) S) (L ++ ps D k j s w) ∧ lgC (X8_putSum_14 (nI k) (nI j) (nI s) (nI w) S) D := by
  unfold X8_putSum_14 ps
  unfold ps at hl
  by_cases c : s = 0
  · subst c
    rw [if_pos (show nI 0 = 0 from rfl), if_pos rfl, List.append_nil]
    exact ⟨hS, hD⟩
  · rw [if_neg c] at hl
    rw [if_neg (by exact iNE s 0 c), if_neg c]
    unfold X8_putSum_14_b42
    simp only [aLet]
    have h1 : X2_told_8 (nI j) (1 : Int32) S = D.2.1 (5 * j + 1) := c_told (w := 1) hD ok hj (by omega)
    have h0 : X2_told_8 (nI j) (0 : Int32) S = D.2.1 (5 * j) := c_told (w := 0) hD ok hj (by omega)
    rw [h1, h0]
    unfold chg at hl ⊢
    by_cases c2 : D.2.1 (5 * j) = 0
    · rw [if_pos c2] at hl ⊢
      rw [if_pos c2]
      exact X8_put_eq hS hD hw hl
    · rw [if_neg c2] at hl ⊢
      rw [if_neg c2, Int32.neg_sub]
      exact X8_put_eq hS hD hw hl
/-- the sum with two figures turned about, as a natural number -/
def tnN (n k : Nat) : Nat := if dg n k = dg n (k + 1) ∨ (n / 10 ^ k < 100 ∧ dg n k = 0) then 0 else n + dg n k * (9 * 10 ^ k) - dg n (k + 1) * (9 * 10 ^ k)
theorem dg_ge (n k : Nat) : dg n k * 10 ^ k ≤ n := by
  have h1 : dg n k ≤ n / 10 ^ k := Nat.mod_le _ _
  exact Nat.le_trans (Nat.mul_le_mul_right _ h1) (Nat.div_mul_le_self n (10 ^ k))
theorem tn_N {n k : Nat} (hn : n ≤ 999999) (hk : k < 6) : tn n k = nI (tnN n k) := by
  unfold tn tnN
  split
  · rfl
  · have h1 := dg_ge n (k + 1)
    rw [Nat.pow_succ] at h1
    have h2 : dg n (k + 1) * (9 * 10 ^ k) ≤ dg n (k + 1) * (10 ^ k * 10) := Nat.mul_le_mul_left _ (by omega)
    rw [← pk_sub (by omega), ← nI_add, Int32.sub_mul]
    simp only [Int32.sub_eq_add_neg, Int32.add_assoc, pk_mul]
theorem tnN_b {n k : Nat} (hk : k < 6) : (n < tnN n k + 9 * (10 * 10 ^ k) ∨ tnN n k = 0) ∧ tnN n k < n + 9 * (10 * 10 ^ k) ∧ (tnN n k = 0 ∨ tnN n k + 9 * 10 ^ k ≤ n ∨ n + 9 * 10 ^ k ≤ tnN n k) := by
  have h1 := dg_ge n (k + 1)
  rw [Nat.pow_succ] at h1
  have h3 := dg_lt n k
  have h4 := dg_lt n (k + 1)
  have hp := m_p10b (show k < 7 by omega)
  unfold tnN
  by_cases c : dg n k = dg n (k + 1) ∨ (n / 10 ^ k < 100 ∧ dg n k = 0)
  · rw [if_pos c]; refine ⟨Or.inr rfl, by omega, Or.inl rfl⟩
  · rw [if_neg c]
    have c1 : dg n k ≠ dg n (k + 1) := fun h => c (Or.inl h)
    generalize dg n k = a at *
    generalize dg n (k + 1) = b at *
    generalize 10 ^ k = q at *
    have hb : b * (9 * q) + b * q = b * (q * 10) := by rw [← Nat.mul_add]; congr 1; omega
    have ha9 : a * (9 * q) ≤ 9 * (9 * q) := Nat.mul_le_mul_right _ (by omega)
    have hb9 : b * (9 * q) ≤ 9 * (9 * q) := Nat.mul_le_mul_right _ (by omega)
    rcases Nat.lt_or_gt_of_ne c1 with h | h
    · have : (a + 1) * (9 * q) ≤ b * (9 * q) := Nat.mul_le_mul_right _ (by omega)
      rw [Nat.add_mul, Nat.one_mul] at this
      refine ⟨Or.inl (by omega), by omega, Or.inr (Or.inl (by omega))⟩
    · have : (b + 1) * (9 * q) ≤ a * (9 * q) := Nat.mul_le_mul_right _ (by omega)
      rw [Nat.add_mul, Nat.one_mul] at this
      refine ⟨Or.inl (by omega), by omega, Or.inr (Or.inr (by omega))⟩
