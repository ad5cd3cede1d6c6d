/-! slips: the reference lays one in its order -/
/-- the rows while those from a place on are moved one further -/
def rowsV (A B C D E : Nat → Int32) (L : List Sl) (v : Nat) : Prop := ∀ i, i < L.length → (i < v → A i = nI (L.getD i sl0).1 ∧ B i = nI (L.getD i sl0).2.1 ∧ C i = nI (L.getD i sl0).2.2.1 ∧ D i = (L.getD i sl0).2.2.2.1 ∧ E i = nI (L.getD i sl0).2.2.2.2) ∧ (v ≤ i → A (i + 1) = nI (L.getD i sl0).1 ∧ B (i + 1) = nI (L.getD i sl0).2.1 ∧ C (i + 1) = nI (L.getD i sl0).2.2.1 ∧ D (i + 1) = (L.getD i sl0).2.2.2.1 ∧ E (i + 1) = nI (L.getD i sl0).2.2.2.2)
theorem rowsV_0 {A B C D E : Nat → Int32} {L : List Sl} (h : rows A B C D E L) : rowsV A B C D E L L.length := fun i hi => ⟨fun _ => h i hi, fun z => by omega⟩
theorem rowsV_st {A B C D E : Nat → Int32} {L : List Sl} {v : Nat} (h : rowsV A B C D E L (v + 1)) : rowsV (upd A (v + 1) (A v)) (upd B (v + 1) (B v)) (upd C (v + 1) (C v)) (upd D (v + 1) (D v)) (upd E (v + 1) (E v)) L v := by
  intro i hi
  obtain ⟨h1, h2⟩ := h i hi
  refine ⟨fun z => ?_, fun z => ?_⟩
  · simp only [gU, if_neg (show ¬ i = v + 1 by omega)]
    exact h1 (by omega)
  · simp only [gU]
    by_cases c : i = v
    · subst c
      simp only [if_true]
      exact h1 (by omega)
    · simp only [if_neg (show ¬ i + 1 = v + 1 by omega)]
      exact h2 (by omega)
theorem rowsV_end {A B C D E : Nat → Int32} {L M : List Sl} {x : Sl} (h : rowsV A B C D E (L ++ M) L.length) : rows (upd A L.length (nI x.1)) (upd B L.length (nI x.2.1)) (upd C L.length (nI x.2.2.1)) (upd D L.length x.2.2.2.1) (upd E L.length (nI x.2.2.2.2)) (L ++ (x :: M)) := by
  intro i hi
  simp only [List.length_append, List.length_cons] at hi
  simp only [gU]
  by_cases c : i = L.length
  · subst c
    rw [getD_r (Nat.le_refl _), Nat.sub_self]
    simp only [if_true]
    exact ⟨rfl, rfl, rfl, rfl, rfl⟩
  · simp only [if_neg c]
    by_cases c2 : i < L.length
    · have := (h i (by rw [List.length_append]; omega)).1 c2
      rw [getD_l c2] at this ⊢
      exact this
    · obtain ⟨q, rfl⟩ : ∃ q, i = L.length + q + 1 := ⟨i - L.length - 1, by omega⟩
      have := (h (L.length + q) (by rw [List.length_append]; omega)).2 (by omega)
      rw [getD_r (by omega)] at this ⊢
      rw [show L.length + q + 1 - L.length = (L.length + q - L.length) + 1 by omega]
      exact this
theorem r_add_end {N : Nat} {S : aSt} {A B : List Sl} {D : Dt} (hD : lgR S D) (h1 : S.1 42 23 = nI (A ++ B).length) (h : rowsV (S.2.2 50) (S.2.2 51) (S.2.2 52) (S.2.2 53) (S.2.2 54) (A ++ B) A.length) {k p s w : Nat} {c : Int32} (hl : (A ++ B).length < 2048) : ∃ T, X11_add_42_b148 N (nI k) (nI p) (nI s) c (nI w) (nI A.length) S = some T ∧ slR T (A ++ (⟨k, p, s, c, w⟩ :: B)) ∧ lgR T D := by
  have hl2 : A.length < 2048 := by rw [List.length_append] at hl; omega
  have ha := m_ix hl2 (by decide)
  refine ⟨aI (aA (aA (aA (aA (aA S 50 (upd (S.2.2 50) A.length (nI k))) 51 (upd (S.2.2 51) A.length (nI p))) 52 (upd (S.2.2 52) A.length (nI s))) 53 (upd (S.2.2 53) A.length c)) 54 (upd (S.2.2 54) A.length (nI w))) 42 23 (nI ((A ++ B).length + 1)), ?_, ⟨?_, ?_⟩, ?_⟩
  · unfold X11_add_42_b148
    rw [if_pos ha, if_pos ha, if_pos ha, if_pos ha, if_pos ha, nI_clamp (by omega), h1, nI_1]
  · rw [gI, if_pos ⟨rfl, rfl⟩]
    congr 1
    simp only [List.length_append, List.length_cons]; omega
  · exact rowsV_end (x := ⟨k, p, s, c, w⟩) h
  · unfold lgR at *
    exact hD
theorem r_add_l {N : Nat} {A B : List Sl} {D : Dt} {k p s w : Nat} {c : Int32} (hk : k < 7) (hp : p < 100) (hs : s < 2 ^ 31) (hA : ∀ x ∈ A, okS x ∧ ¬ (k ≠ 6 ∧ x.1 = k ∧ x.2.1 = p ∧ s < x.2.2.1)) (hB : ∀ x ∈ B, okS x ∧ k ≠ 6 ∧ x.1 = k ∧ x.2.1 = p ∧ s < x.2.2.1) (hl : (A ++ B).length < 2048) : ∀ (r f : Nat) (S : aSt), r ≤ B.length → r < f → lgR S D → S.1 42 23 = nI (A ++ B).length → rowsV (S.2.2 50) (S.2.2 51) (S.2.2 52) (S.2.2 53) (S.2.2 54) (A ++ B) (A.length + r) → ∃ T, X11_add_42_l12 N f (nI k) (nI p) (nI s) c (nI w) (nI (A.length + r)) S = some T ∧ slR T (A ++ (⟨k, p, s, c, w⟩ :: B)) ∧ lgR T D := by
  have hl3 := hl
  rw [List.length_append] at hl3
  intro r
  induction r with
  | zero =>
    intro f S hr hf hD h1 h
    obtain ⟨f, rfl⟩ : ∃ q, f = q + 1 := ⟨f - 1, by omega⟩
    obtain ⟨T, e1, e2⟩ := r_add_end (N := N) (k := k) (p := p) (s := s) (w := w) (c := c) hD h1 h hl
    refine ⟨T, ?_, e2⟩
    rw [← e1]
    show X11_add_42_b12 N (X11_add_42_l12 N f) _ _ _ _ _ _ _ = _
    unfold X11_add_42_b12
    rw [Nat.add_zero]
    by_cases c0 : A.length = 0
    · rw [if_pos (by exact iLE A.length 0 (by omega))]
    · rw [if_neg (by exact iNLE A.length 0 (by omega))]
      by_cases c6 : k = 6
      · subst c6
        rw [if_pos (show nI 6 = (6 : Int32) from rfl)]
      · have e3 : nI A.length - (1 : Int32) = nI (A.length - 1) := pk_sub (b := 1) (by omega)
        have hm := hA _ (getD_mem (i := A.length - 1) (d := sl0) (by omega))
        obtain ⟨ok1, hm⟩ := hm
        obtain ⟨g1, g2, g3, -, -⟩ := (h (A.length - 1) (by rw [List.length_append]; omega)).1 (by omega)
        rw [getD_l (by omega)] at g1 g2 g3
        rw [if_neg (by exact iNE k 6 c6), e3, if_pos (m_ix (by omega) (by decide)), nI_clamp (by omega), g1, g2, g3]
        by_cases c1 : (A.getD (A.length - 1) sl0).1 = k
        · rw [if_pos (by rw [c1])]
          rw [if_pos (m_ix (by omega) (by decide))]
          by_cases c2 : (A.getD (A.length - 1) sl0).2.1 = p
          · rw [if_pos (by rw [c2])]
            rw [if_pos (m_ix (by omega) (by decide))]
            rw [if_pos ((nI_leI ok1.2.2.1 hs).mpr (Nat.le_of_not_lt (fun z => hm ⟨c6, c1, c2, z⟩)))]
          · rw [if_neg (by rw [nI_eq ok1.2.1 (by omega)]; exact c2)]
        · rw [if_neg (by rw [nI_eq ok1.1 (by omega)]; exact c1)]
  | succ r ih =>
    intro f S hr hf hD h1 h
    obtain ⟨f, rfl⟩ : ∃ q, f = q + 1 := ⟨f - 1, by omega⟩
    have hm := hB _ (getD_mem (i := r) (d := sl0) (by omega))
    obtain ⟨ok1, c6, m1, m2, m3⟩ := hm
    obtain ⟨g1, g2, g3, g4, g5⟩ := (h (A.length + r) (by rw [List.length_append]; omega)).1 (by omega)
    rw [getD_r (by omega), Nat.add_sub_cancel_left] at g1 g2 g3 g4 g5
    have h' := rowsV_st (v := A.length + r) h
    have e3 : nI (A.length + (r + 1)) - (1 : Int32) = nI (A.length + r) := nI_pred _
    have e4 : nI (A.length + (r + 1)) + (-1 : Int32) = nI (A.length + r) := pk_m1 _
    have i1 := m_ix (show A.length + r < 2048 by omega) (by decide)
    have i2 := m_ix (show A.length + (r + 1) < 2048 by omega) (by decide)
    have cl1 : (nI (A.length + r)).toNatClampNeg = A.length + r := nI_clamp (by omega)
    have cl2 : (nI (A.length + (r + 1))).toNatClampNeg = A.length + r + 1 := nI_clamp (by omega)
    obtain ⟨T, t1, t2⟩ := ih f (aA (aA (aA (aA (aA S 50 (upd (S.2.2 50) (A.length + r + 1) ((S.2.2 50) (A.length + r)))) 51 (upd (S.2.2 51) (A.length + r + 1) ((S.2.2 51) (A.length + r)))) 52 (upd (S.2.2 52) (A.length + r + 1) ((S.2.2 52) (A.length + r)))) 53 (upd (S.2.2 53) (A.length + r + 1) ((S.2.2 53) (A.length + r)))) 54 (upd (S.2.2 54) (A.length + r + 1) ((S.2.2 54) (A.length + r)))) (by omega) (by omega) (by unfold lgR at *; exact hD) h1 h'
    refine ⟨T, ?_, t2⟩
    rw [← t1]
    show X11_add_42_b12 N (X11_add_42_l12 N f) _ _ _ _ _ _ _ = _
    unfold X11_add_42_b12
    rw [if_neg (by exact iNLE (A.length + (r + 1)) 0 (by omega)), if_neg (by exact iNE k 6 c6), e3, if_pos i1, cl1]
    rw [if_pos (show S.2.2 50 (A.length + r) = nI k by rw [g1, m1])]
    rw [if_pos i1]
    rw [if_pos (show S.2.2 51 (A.length + r) = nI p by rw [g2, m2])]
    rw [if_pos i1]
    rw [if_neg (show ¬ S.2.2 52 (A.length + r) ≤ nI s by rw [g3, nI_leI ok1.2.2.1 hs]; omega)]
    rw [if_pos i1, if_pos i2, if_pos i1, if_pos i2, if_pos i1, if_pos i2, if_pos i1, if_pos i2, if_pos i1, if_pos i2, cl2, e4]
theorem r_add {N : Nat} {A B : List Sl} {D : Dt} {k p s w : Nat} {c : Int32} {S : aSt} (hN : 3000 ≤ N) (hw : w < 2 ^ 31) (hk : k < 7) (hp : p < 100) (hs : s < 2 ^ 31) (hA : ∀ x ∈ A, okS x ∧ ¬ (k ≠ 6 ∧ x.1 = k ∧ x.2.1 = p ∧ s < x.2.2.1)) (hB : ∀ x ∈ B, okS x ∧ k ≠ 6 ∧ x.1 = k ∧ x.2.1 = p ∧ s < x.2.2.1) (hS : slR S (A ++ B)) (hD : lgR S D) (hl : (A ++ B).length < 2048) : ∃ T, X11_add_42 N (nI k) (nI p) (nI s) c (nI w) S = some T ∧ slR T (A ++ (pc k p s c w ++ B)) ∧ lgR T D := by
  have hlB : B.length < 2048 := by rw [List.length_append] at hl; omega
  unfold X11_add_42 pc
  by_cases c0 : w = 0
  · subst c0
    rw [if_pos (show nI 0 = (0 : Int32) from rfl), if_pos rfl, List.nil_append]
    exact ⟨S, rfl, hS, hD⟩
  · rw [if_neg c0]
    rw [if_neg (by exact iNE w 0 c0), hS.1]
    have := r_add_l (N := N) (D := D) (w := w) (c := c) hk hp hs hA hB hl B.length N S (Nat.le_refl _) (by omega) hD hS.1 (by rw [← List.length_append]; exact rowsV_0 hS.2)
    rw [← List.length_append] at this
    exact this
