/-! ofKind, two, hide, pair -/
def kN (D : Dt) (I : List Nat) (k : Nat) : Nat := (I.filter (fun i => decide (kA D i = k))).length
theorem kN_app (D : Dt) (I : List Nat) (i k : Nat) : kN D (I ++ [i]) k = kN D I k + if kA D i = k then 1 else 0 := by
  unfold kN
  rw [List.filter_append, List.length_append]
  congr 1
  by_cases h : kA D i = k <;> simp [h]
theorem e_slip22 {S : aSt} {D : Dt} {I : List Nat} {i : Nat} (h : sg22 S D I) (hi : i < I.length) (h157 : I.length ≤ 157) : X7_slip_22 (nI i) S = nI (I.getD i 0) := by
  unfold X7_slip_22 X6_at_23
  simp only [aLet]
  rw [if_neg (nI_pos (by omega)), if_neg (by exact iNLE 157 i (by omega)), nI_clamp (by omega), h.2.2 i hi]
theorem c_many {N k : Nat} {D : Dt} {q : Sl → Bool} {S : aSt} (ok : okD D) (hk : k < 7) (hS : slC S (SL D)) (hG : sg22 S D (SI D q)) : ∀ (m i f : Nat), i + m = (SI D q).length → m < f → X7_manyOf_22_l4 N S f (nI k) (nI (kN D ((SI D q).take i) k)) (nI i) = some (nI (kN D (SI D q) k)) := by
  have h157 := SI_157 (q := q) ok
  intro m
  induction m with
  | zero =>
    intro i f hi hf
    obtain ⟨f, rfl⟩ : ∃ q, f = q + 1 := ⟨f - 1, by omega⟩
    have : i = (SI D q).length := by omega
    subst this
    show X7_manyOf_22_b4 N S (X7_manyOf_22_l4 N S f) _ _ _ = _
    unfold X7_manyOf_22_b4
    rw [hG.1, if_pos (Int32.le_refl _), List.take_length]
  | succ m ih =>
    intro i f hi hf
    obtain ⟨f, rfl⟩ : ∃ q, f = q + 1 := ⟨f - 1, by omega⟩
    have hil : i < (SI D q).length := by omega
    have hs := SI_lt (D := D) (q := q) hil
    obtain ⟨a1, -, -, -⟩ := c_slA hS ok hs
    have w3 := (wA_ok ok hs).2.2.1
    have hi2 := ih (i + 1) f (by omega) (by omega)
    rw [take_n hil, kN_app] at hi2
    show X7_manyOf_22_b4 N S (X7_manyOf_22_l4 N S f) _ _ _ = _
    unfold X7_manyOf_22_b4 X7_manyOf_22_b31
    simp only [aLet]
    rw [hG.1, if_neg (by exact iNLE (SI D q).length i (by omega)), e_slip22 hG hil h157, a1, nI_1, nI_1]
    by_cases c : kA D ((SI D q).getD i 0) = k
    · rw [if_pos (by rw [c])]
      rw [if_pos c] at hi2
      exact hi2
    · rw [if_neg (by exact iNE (kA D ((SI D q).getD i 0)) k c rfl rfl w3)]
      rw [if_neg c] at hi2
      exact hi2
theorem r_many {N k : Nat} {D : Dt} {q : Sl → Bool} {S : aSt} (ok : okD D) (hk : k < 7) (hS : slR S (SL D)) (hG : onR S (SI D q)) : ∀ (m i f : Nat), i + m = (SI D q).length → m < f → X11_ofKind_42_l24 N f (nI k) (nI (kN D ((SI D q).take i) k)) (nI i) S = some (nI (kN D (SI D q) k), S) := by
  have h157 := SI_157 (q := q) ok
  intro m
  induction m with
  | zero =>
    intro i f hi hf
    obtain ⟨f, rfl⟩ : ∃ q, f = q + 1 := ⟨f - 1, by omega⟩
    have : i = (SI D q).length := by omega
    subst this
    show X11_ofKind_42_b24 N (X11_ofKind_42_l24 N f) _ _ _ _ = _
    unfold X11_ofKind_42_b24
    rw [hG.1, if_pos (Int32.le_refl _), List.take_length]
  | succ m ih =>
    intro i f hi hf
    obtain ⟨f, rfl⟩ : ∃ q, f = q + 1 := ⟨f - 1, by omega⟩
    have hil : i < (SI D q).length := by omega
    have hs := SI_lt (D := D) (q := q) hil
    obtain ⟨a1, a2, a3, -⟩ := r_slA hS ok hs
    have w3 := (wA_ok ok hs).2.2.1
    have hi2 := ih (i + 1) f (by omega) (by omega)
    rw [take_n hil, kN_app] at hi2
    show X11_ofKind_42_b24 N (X11_ofKind_42_l24 N f) _ _ _ _ = _
    unfold X11_ofKind_42_b24 X11_ofKind_42_b53
    rw [hG.1, if_neg (by exact iNLE (SI D q).length i (by omega)), if_pos (m_ix (show i < 2048 by omega) (by decide)), nI_clamp (by omega), hG.2 i hil, if_pos a1, a2, a3, nI_1]
    by_cases c : kA D ((SI D q).getD i 0) = k
    · rw [if_pos (by rw [c]), nI_1]
      rw [if_pos c] at hi2
      exact hi2
    · rw [if_neg (by exact iNE (kA D ((SI D q).getD i 0)) k c rfl rfl w3)]
      rw [if_neg c] at hi2
      have : nI (kN D ((SI D q).take i) k) + (0 : Int32) = nI (kN D ((SI D q).take i) k + 0) := nI_add _ 0
      rw [this, nI_1]
      exact hi2
theorem m_le {x : Int32} {n : Nat} (hn : n < 2 ^ 31) (h : (0 : Int32) ≤ x) (h2 : x ≤ nI n) : ∃ k, k ≤ n ∧ x = nI k := by
  obtain ⟨k, hk, rfl⟩ := m_nat h
  exact ⟨k, (nI_leI hk hn).mp h2, rfl⟩
theorem m_ofKind {N c : Nat} (x : Int32) {S : aSt} (hN : 3000 ≤ N) (hc : c < 2 ^ 31) (h : GR S c) : ∃ r S1 S2, X10_ofKind_0 N x S = some (r, S1) ∧ X11_ofKind_42 N x S1 = some (r, S2) ∧ GR S2 c := by
  by_cases cy : ¬ ((0 : Int32) ≤ x ∧ x ≤ 6)
  · refine ⟨-2, S, S, ?_, ?_, h⟩
    · unfold X10_ofKind_0
      by_cases c1 : x < 0
      · rw [if_pos c1]
      · rw [if_neg c1, if_neg]
        intro z
        obtain ⟨k, hk, rfl⟩ := nI_of c1
        rw [show (7 : Int32) = nI 7 from rfl, nI_ltI hk (by omega)] at z
        exact cy ⟨nI_pos' hk, iLE k 6 (by omega)⟩
    · unfold X11_ofKind_42
      simp only [aLet]
      rw [m_in0 (a := 0) (b := 6) (by decide) (by decide) cy, if_pos rfl]
  have cy := Classical.not_not.mp cy
  obtain ⟨k, hk, rfl⟩ := m_le (n := 6) (by omega) cy.1 cy.2
  obtain ⟨T, w1, w2, der⟩ := c_workOut hN hc h
  obtain ⟨ok, lc, lr, hd, dc, dr⟩ := w2.all
  obtain ⟨e1, e2, -, -, -, -, -⟩ := der
  have h157 := SI_157 (q := qA) ok
  obtain ⟨U, u1, u2, u3, u4, u5⟩ := r_ones (q := qA) (fl := 0) hN ok hd lr dr (Or.inl ⟨rfl, fun _ => rfl⟩)
  have fU := F_X11_layOnes_42 _ _ _ u1
  refine ⟨nI (kN (Dof T) (SI (Dof T) qA) k), T, U, ?_, ?_, w2.fr fU (by decide)⟩
  · unfold X10_ofKind_0 X7_manyOf_22
    rw [if_neg (nI_pos (by omega)), if_pos (by exact iLT k 7 (by omega)), w1]
    simp only [Option.bind_some]
    have := c_many (N := N) (S := T) (q := qA) ok (show k < 7 by omega) e1 e2 (SI (Dof T) qA).length 0 N (by omega) (by omega)
    rw [show X7_manyOf_22_l4 N T N (nI k) (0 : Int32) (0 : Int32) = _ from this]
    rfl
  · unfold X11_ofKind_42
    simp only [aLet]
    rw [m_in1 (a := 0) (b := 6) (by decide) (by decide) cy, if_neg n10, u1]
    simp only [Option.bind_some]
    exact r_many (N := N) (S := U) (q := qA) ok (show k < 7 by omega) u2 u5 (SI (Dof T) qA).length 0 N (by omega) (by omega)
theorem m_layTwo {N c : Nat} {fl w : Int32} {T : aSt} (hN : 3000 ≤ N) (h : GR T c) (hw : (fl = 0 ∧ w = -oAll (Dof T)) ∨ (fl = 1 ∧ w = 0)) : ∃ U, X11_layTwo_42 N fl T = some U ∧ psR U (pairsOf (Dof T) w) ∧ slR U (SL (Dof T)) ∧ GR U c := by
  obtain ⟨ok, lc, lr, hd, dc, dr⟩ := h.all
  obtain ⟨U1, a1, a2, a3⟩ := r_laySlips hN ok lr
  obtain ⟨U2, b1, b2, b3⟩ := r_pairs (w := w) hN ok a2
  have run : X11_layTwo_42 N fl T = some U2 := by
    unfold X11_layTwo_42 X11_layTwo_42_b19
    rw [a1]
    simp only [Option.bind_some]
    rcases hw with ⟨h1, h2⟩ | ⟨h1, h2⟩
    · rw [if_pos h1, r_outOf _ (by omega) ok a3]
      simp only [Option.bind_some]
      rw [show -outS (Dof T).2.1 (-1) (Dof T).1 = w from h2.symm, b1]
      rfl
    · rw [if_neg (by rw [h1]; decide), show (0 : Int32) = w from h2.symm, b1]
      rfl
  exact ⟨U2, run, b2, a2.fr b3 (by decide), h.fr (F_X11_layTwo_42 _ _ _ run) (by decide)⟩
theorem m_two {N c : Nat} (x : Int32) {S : aSt} (hN : 3000 ≤ N) (hc : c < 2 ^ 31) (h : GR S c) : ∃ r S1 S2, X10_two_0 N x S = some (r, S1) ∧ X11_two_42 N x S1 = some (r, S2) ∧ GR S2 c := by
  by_cases cy : ¬ ((0 : Int32) ≤ x ∧ x ≤ 1)
  · refine ⟨-3, S, S, ?_, ?_, h⟩
    · unfold X10_two_0
      by_cases c1 : x < 0
      · rw [if_pos c1]
      · rw [if_neg c1, if_neg (fun z => cy ⟨Int32.not_lt.mp c1, z⟩)]
    · unfold X11_two_42
      simp only [aLet]
      rw [m_in0 (a := 0) (b := 1) (by decide) (by decide) cy, if_pos rfl]
  have cy := Classical.not_not.mp cy
  obtain ⟨T, w1, w2, der⟩ := c_workOut hN hc h
  obtain ⟨-, -, -, e4, -, -, -⟩ := der
  obtain ⟨U, u1, u2, -, u3⟩ := m_layTwo (fl := 0) hN w2 (Or.inl ⟨rfl, rfl⟩)
  unfold X10_two_0
  rw [if_neg (Int32.not_lt.mpr cy.1), if_pos cy.2, w1]
  simp only [Option.bind_some]
  by_cases c0 : x = 0
  · refine ⟨_, T, U, by rw [if_pos c0], ?_, u3⟩
    unfold X11_two_42
    simp only [aLet]
    rw [m_in1 (a := 0) (b := 1) (by decide) (by decide) cy, if_neg n10, u1]
    simp only [Option.bind_some]
    rw [if_pos c0, u2.1, e4.1]
  · refine ⟨_, T, U, by rw [if_neg c0], ?_, u3⟩
    unfold X11_two_42
    simp only [aLet]
    rw [m_in1 (a := 0) (b := 1) (by decide) (by decide) cy, if_neg n10, u1]
    simp only [Option.bind_some]
    rw [if_neg c0, u2.2.1, e4.2.1]
theorem m_hide {N c : Nat} (x : Int32) {S : aSt} (hN : 3000 ≤ N) (hc : c < 2 ^ 31) (h : GR S c) : ∃ r S1 S2, X10_hide_0 N x S = some (r, S1) ∧ X11_hide_42 N x S1 = some (r, S2) ∧ GR S2 c := by
  by_cases cy : ¬ ((0 : Int32) ≤ x ∧ x ≤ 1)
  · refine ⟨-3, S, S, ?_, ?_, h⟩
    · unfold X10_hide_0
      by_cases c1 : x < 0
      · rw [if_pos c1]
      · rw [if_neg c1, if_neg (fun z => cy ⟨Int32.not_lt.mp c1, z⟩)]
    · unfold X11_hide_42
      simp only [aLet]
      rw [m_in0 (a := 0) (b := 1) (by decide) (by decide) cy, if_pos rfl]
  have cy := Classical.not_not.mp cy
  obtain ⟨T, w1, w2, der⟩ := c_workOut hN hc h
  obtain ⟨-, -, -, -, e5, -, -⟩ := der
  obtain ⟨U, u1, u2, -, u3⟩ := m_layTwo (fl := 1) (w := 0) hN w2 (Or.inr ⟨rfl, rfl⟩)
  unfold X10_hide_0
  rw [if_neg (Int32.not_lt.mpr cy.1), if_pos cy.2, w1]
  simp only [Option.bind_some]
  by_cases c0 : x = 0
  · refine ⟨_, T, U, by rw [if_pos c0], ?_, u3⟩
    unfold X11_hide_42
    simp only [aLet]
    rw [m_in1 (a := 0) (b := 1) (by decide) (by decide) cy, if_neg n10, u1]
    simp only [Option.bind_some]
    rw [if_pos c0, u2.1, e5.1]
  · refine ⟨_, T, U, by rw [if_neg c0], ?_, u3⟩
    unfold X11_hide_42
    simp only [aLet]
    rw [m_in1 (a := 0) (b := 1) (by decide) (by decide) cy, if_neg n10, u1]
    simp only [Option.bind_some]
    rw [if_neg c0, u2.2.1, e5.2.1]
theorem r_told3 {N j i : Nat} {U : aSt} {D : Dt} (h : slR U (SL D)) (ok : okD D) (hi : i < nA D) (hj : j < 6) : X11_pair_42_b46 N (nI j) (nI i) U = some (tl D i (j % 3), U) := by
  obtain ⟨s1, s2, s3, s4, s5, -, -⟩ := r_slip h (SL_len ok) hi
  unfold X11_pair_42_b46 tl
  rw [show (3 : Int32) = nI 3 from rfl, pk_rem (by omega) (by omega) (by omega), if_pos s1, if_pos s1, if_pos s1, s2, s3, s4, s5]
  rcases (show j = 0 ∨ j = 1 ∨ j = 2 ∨ j = 3 ∨ j = 4 ∨ j = 5 by omega) with rfl | rfl | rfl | rfl | rfl | rfl <;> rfl
/-- the best pair is of slips of the list -/
def inL (D : Dt) (t : Ps) : Prop := t.1 ≠ 0 → ∃ a b : Nat, a < nA D ∧ b < nA D ∧ t.2.2.2.1 = nI a ∧ t.2.2.2.2 = nI b
theorem inL_pst {D : Dt} (ok : okD D) {a b : Nat} {t : Ps} {n : Nat} (ha : a < nA D) (hb : b < nA D) (ht : okPs t n) (h : inL D t) : inL D (pst D a b t) := by
  have w1 := wA_ok ok ha
  have w2 := wA_ok ok hb
  have hp : 1 * 1 ≤ wA D a * wA D b := Nat.mul_le_mul w1.1 w2.1
  intro _
  unfold pst
  by_cases c : t.2.2.1 < wA D a * wA D b
  · exact ⟨a, b, ha, hb, if_pos c, if_pos c⟩
  · have : t.1 ≠ 0 := fun z => by have := (ht.2.2.2.1 z).1; omega
    obtain ⟨x, y, x1, y1, x2, y2⟩ := h this
    exact ⟨x, y, x1, y1, by rw [← x2]; exact if_neg c, by rw [← y2]; exact if_neg c⟩
theorem inL_inn {D : Dt} (ok : okD D) {a : Nat} {c : Int32} (ha : a < nA D) : ∀ (r n : Nat) (t : Ps), r ≤ nA D → okPs t n → inL D t → inL D (inn D a c r t)
  | 0, n, t, _, _, h => h
  | r + 1, n, t, hr, ht, h => by
    rw [inn]
    split
    · exact inL_inn ok ha r (n + 1) _ (by omega) (okPs_pst ok ha (by omega) ht) (inL_pst ok ha (by omega) ht h)
    · exact inL_inn ok ha r n _ (by omega) ht h
theorem inL_outr {D : Dt} (ok : okD D) {w : Int32} : ∀ (r n : Nat) (t : Ps), r ≤ nA D → okPs t n → inL D t → inL D (outr D w r t)
  | 0, n, t, _, _, h => h
  | r + 1, n, t, hr, ht, h => by
    rw [outr]
    exact inL_outr ok r (n + nA D) _ (by omega) (okPs_inn ok (by omega) (nA D) n t (Nat.le_refl _) ht) (inL_inn ok (by omega) (nA D) n t (Nat.le_refl _) ht h)
theorem inL_pairs {D : Dt} (ok : okD D) (w : Int32) : inL D (pairsOf D w) :=
  inL_outr ok (nA D) 0 ps0 (Nat.le_refl _) ⟨by decide, by decide, by decide, fun _ => ⟨rfl, rfl⟩, fun z => absurd rfl z⟩ (fun z => absurd rfl z)
theorem m_pair {N c : Nat} {z : Int32} (y : Int32) {S : aSt} (hN : 3000 ≤ N) (hc : c < 2 ^ 31) (hz : z = 0 ∨ z = 1) (h : GR S c) : ∃ r S1 S2, X10_pair_0 N z y S = some (r, S1) ∧ X11_pair_42 N z y S1 = some (r, S2) ∧ GR S2 c := by
  by_cases cy : ¬ ((0 : Int32) ≤ y ∧ y ≤ 5)
  · refine ⟨-3, S, S, ?_, ?_, h⟩
    · unfold X10_pair_0
      by_cases c1 : y < 0
      · rw [if_pos c1]
      · rw [if_neg c1, if_neg (fun z => cy ⟨Int32.not_lt.mp c1, z⟩)]
    · unfold X11_pair_42
      simp only [aLet]
      rw [m_in0 (a := 0) (b := 5) (by decide) (by decide) cy, if_pos rfl]
  have cy := Classical.not_not.mp cy
  obtain ⟨j, hj, rfl⟩ := m_le (n := 5) (by omega) cy.1 cy.2
  obtain ⟨T, w1, w2, der⟩ := c_workOut hN hc h
  obtain ⟨ok, lc, lr, hd, dc, dr⟩ := w2.all
  obtain ⟨e1, -, -, e4, e5, -, -⟩ := der
  have hlen : nA (Dof T) ≤ 1921 := SL_len ok
  unfold X10_pair_0
  rw [if_neg (Int32.not_lt.mpr cy.1), if_pos cy.2, w1]
  simp only [Option.bind_some]
  have core : ∀ (w : Int32) (F : Option (Int32 × aSt)), ((z = 0 ∧ w = -oAll (Dof T)) ∨ (z = 1 ∧ w = 0)) → ((pairsOf (Dof T) w).1 = 0 → F = some (-1, T)) → (∀ a b, a < nA (Dof T) → b < nA (Dof T) → (pairsOf (Dof T) w).2.2.2.1 = nI a → (pairsOf (Dof T) w).2.2.2.2 = nI b → (pairsOf (Dof T) w).1 ≠ 0 → F = some (tl (Dof T) (if j < 3 then a else b) (j % 3), T)) → ∃ r S1 S2, F = some (r, S1) ∧ X11_pair_42 N z (nI j) S1 = some (r, S2) ∧ GR S2 c := by
    intro w F hw h1 h2
    obtain ⟨U, u1, u2, u4, u3⟩ := m_layTwo (fl := z) (w := w) hN w2 hw
    have okp := okPs_pairs ok w
    have run : X11_pair_42 N z (nI j) T = if (U.1 42 28) = ((-1) : Int32) then some ((((-1) : Int32), U)) else (if (3 : Int32) ≤ nI j then (X11_pair_42_b46 N (nI j) (U.1 42 29) U) else (X11_pair_42_b46 N (nI j) (U.1 42 28) U)) := by
      unfold X11_pair_42
      simp only [aLet]
      rw [m_in1 (a := 0) (b := 5) (by decide) (by decide) cy, if_neg n10, u1]
      rfl
    by_cases cm : (pairsOf (Dof T) w).1 = 0
    · refine ⟨_, T, U, h1 cm, ?_, u3⟩
      rw [run, u2.2.2.1, (okp.2.2.2.1 cm).2, if_pos rfl]
    · obtain ⟨a, b, ha, hb, fa, fb⟩ := inL_pairs ok w cm
      refine ⟨_, T, U, h2 a b ha hb fa fb cm, ?_, u3⟩
      rw [run, u2.2.2.1, u2.2.2.2, fa, fb, if_neg (nI_m1 (by omega))]
      by_cases c3 : j < 3
      · rw [if_neg (by exact iNLE 3 j c3), if_pos c3]
        exact r_told3 u4 ok ha (by omega)
      · rw [if_pos (by exact iLE 3 j (by omega)), if_neg c3]
        exact r_told3 u4 ok hb (by omega)
  have told : ∀ a b : Nat, a < nA (Dof T) → b < nA (Dof T) → (if (3 : Int32) ≤ nI j then (Option.bind (X8_told_14 N (nI b) (nI j - (3 : Int32)) T) (fun w8 => some ((w8, T)))) else (Option.bind (X8_told_14 N (nI a) (nI j) T) (fun w10 => some ((w10, T))))) = some (tl (Dof T) (if j < 3 then a else b) (j % 3), T) := by
    intro a b ha hb
    by_cases c3 : j < 3
    · rw [if_neg (by exact iNLE 3 j c3), if_pos c3, c_told14 e1 ok ha (by omega), Nat.mod_eq_of_lt c3]
      rfl
    · have e3 : nI j - (3 : Int32) = nI (j % 3) := by
        have := pk_sub (a := j) (b := 3) (by omega)
        rw [show j % 3 = j - 3 by omega]
        exact this
      rw [if_pos (by exact iLE 3 j (by omega)), if_neg c3, e3, c_told14 e1 ok hb (by omega)]
      rfl
  rcases hz with hz | hz
  · rw [if_pos hz]
    have okp := okPs_pairs ok (-oAll (Dof T))
    refine core (-oAll (Dof T)) _ (Or.inl ⟨hz, rfl⟩) ?_ ?_
    · intro cm
      unfold X10_pair_0_b31
      rw [e4.1, if_pos ((lg_0 _ (by omega)).mpr cm)]
    · intro a b ha hb fa fb cm
      unfold X10_pair_0_b31
      rw [e4.1, if_neg (fun z => cm ((lg_0 _ (by have := okp.1; omega)).mp z)), (e4.2.2.2 cm).1, (e4.2.2.2 cm).2, fa, fb]
      exact told a b ha hb
  · rw [if_neg (by rw [hz]; decide)]
    have okp := okPs_pairs ok 0
    refine core 0 _ (Or.inr ⟨hz, rfl⟩) ?_ ?_
    · intro cm
      unfold X10_pair_0_b31b
      rw [e5.1, if_pos ((lg_0 _ (by omega)).mpr cm)]
    · intro a b ha hb fa fb cm
      unfold X10_pair_0_b31b
      rw [e5.1, if_neg (fun z => cm ((lg_0 _ (by have := okp.1; omega)).mp z)), (e5.2.2.2 cm).1, (e5.2.2.2 cm).2, fa, fb]
      exact told a b ha hb
