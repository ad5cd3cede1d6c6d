/-! one, ofKind, two, hide, pair -/
def tl (D : Dt) (i j : Nat) : Int32 := if j = 0 then nI (kA D i) else if j = 1 then nI (pA D i) else if j = 2 then nI ((SL D).getD i sl0).2.2.1 else if j = 3 then cA D i + 50000000 else nI (wA D i)
theorem c_told14 {N i j : Nat} {S : aSt} {D : Dt} (h : slC S (SL D)) (ok : okD D) (hi : i < nA D) (hj : j < 5) : X8_told_14 N (nI i) (nI j) S = some (tl D i j) := by
  obtain ⟨h1, h2, h3, h4, h5⟩ := c_slip h (SL_len ok) hi
  unfold X8_told_14 tl
  simp only [aLet]
  rw [h1, h2, h3, h4, h5]
  rcases (show j = 0 ∨ j = 1 ∨ j = 2 ∨ j = 3 ∨ j = 4 by omega) with rfl | rfl | rfl | rfl | rfl <;> rfl
theorem m_04 {y : Int32} (h : (0 : Int32) ≤ y) (h2 : y ≤ 4) : ∃ j : Nat, j < 5 ∧ y = nI j := by
  obtain ⟨k, hk, rfl⟩ := m_nat h
  rw [show (4 : Int32) = nI 4 from rfl, nI_leI hk (by omega)] at h2
  exact ⟨k, by omega, rfl⟩
theorem m_ge {x : Int32} (h : ¬ x < -1) (h2 : ¬ x = -1) : ∃ k : Nat, k < 2 ^ 31 ∧ x = nI k := by
  refine m_nat ?_
  rw [Int32.le_iff_toInt_le]
  have h3 : ¬ x.toInt < (-1 : Int32).toInt := fun z => h (Int32.lt_iff_toInt_lt.mpr z)
  have h4 : x.toInt ≠ (-1 : Int32).toInt := fun z => h2 (Int32.toInt_inj.mp z)
  rw [show (-1 : Int32).toInt = -1 from by decide] at h3 h4
  show (0 : Int) ≤ x.toInt
  omega
theorem GR.all {S : aSt} {c : Nat} (h : GR S c) : okD (Dof S) ∧ lgC S (Dof S) ∧ lgR S (Dof S) ∧ bOf S < 64 ∧ duC S (bOf S) (S.2.2 46) ∧ duR S (bOf S) (S.2.2 46) := by
  obtain ⟨h1, h2, h3⟩ := h.2.1.D h.2.2.1
  obtain ⟨h4, h5, h6⟩ := h.2.2.2.1.d
  exact ⟨h1, h2, h3, h4, h5, h6⟩
theorem m_one {N c : Nat} {x y z : Int32} {S : aSt} (hN : 3000 ≤ N) (hc : c < 2 ^ 31) (hz : z = 0 ∨ z = 1) (h : GR S c) : ∃ r S1 S2, X10_one_0 N x y z S = some (r, S1) ∧ X11_one_42 N x y z S1 = some (r, S2) ∧ GR S2 c := by
  unfold X10_one_0
  by_cases c1 : x < -1
  · refine ⟨-3, S, S, by rw [if_pos c1], ?_, h⟩
    unfold X11_one_42
    rw [if_pos c1]
  rw [if_neg c1]
  by_cases cy : ¬ ((0 : Int32) ≤ y ∧ y ≤ 4)
  · refine ⟨-3, S, S, ?_, ?_, h⟩
    · by_cases c2 : y < 0
      · rw [if_pos c2]
      · rw [if_neg c2, if_neg (fun z => cy ⟨Int32.not_lt.mp c2, z⟩)]
    · unfold X11_one_42
      simp only [aLet]
      rw [if_neg c1, m_in0 (a := 0) (b := 4) (by decide) (by decide) cy, if_pos rfl]
  have cy := Classical.not_not.mp cy
  rw [if_neg (Int32.not_lt.mpr cy.1), if_pos cy.2]
  obtain ⟨j, hj, rfl⟩ := m_04 cy.1 cy.2
  obtain ⟨T, w1, w2, der⟩ := c_workOut hN hc h
  obtain ⟨ok, lc, lr, hd, dc, dr⟩ := w2.all
  obtain ⟨e1, e2, e3, -, -, -, -⟩ := der
  have hlen : nA (Dof T) ≤ 1921 := SL_len ok
  rw [w1]
  simp only [Option.bind_some]
  have core : ∀ (q : Sl → Bool) (F : Option (Int32 × aSt)), ((z = 0 ∧ ∀ x, q x = true) ∨ (z = 1 ∧ ∀ x, q x = nar (Dof T) (bOf T) (T.2.2 46) x)) → (x = -1 → F = some (nI (SI (Dof T) q).length, T)) → (∀ k, x = nI k → k < (SI (Dof T) q).length → F = some (tl (Dof T) ((SI (Dof T) q).getD k 0) j, T)) → ((∀ k, k < (SI (Dof T) q).length → x ≠ nI k) → x ≠ -1 → F = some (-1, T)) → ∃ r S1 S2, F = some (r, S1) ∧ X11_one_42 N x (nI j) z S1 = some (r, S2) ∧ GR S2 c := by
    intro q F hq h1 h2 h3
    have h157 := SI_157 (q := q) ok
    obtain ⟨U, u1, u2, u3, u4, u5⟩ := r_ones (q := q) hN ok hd lr dr hq
    have fU := F_X11_layOnes_42 _ _ _ u1
    have gU := w2.fr fU (by decide)
    have run : X11_one_42 N x (nI j) z T = (if x = ((-1) : Int32) then (X11_one_42_b38 N x U) else (if x < (U.1 42 25) then (if aIx x 2048 = true then (if nI j = (0 : Int32) then (if aIx ((U.2.2 55) x.toNatClampNeg) 2048 = true then some ((((U.2.2 50) ((U.2.2 55) x.toNatClampNeg).toNatClampNeg), U)) else none) else (if nI j = (1 : Int32) then (if aIx ((U.2.2 55) x.toNatClampNeg) 2048 = true then some ((((U.2.2 51) ((U.2.2 55) x.toNatClampNeg).toNatClampNeg), U)) else none) else (if nI j = (2 : Int32) then (if aIx ((U.2.2 55) x.toNatClampNeg) 2048 = true then some ((((U.2.2 52) ((U.2.2 55) x.toNatClampNeg).toNatClampNeg), U)) else none) else (if nI j = (3 : Int32) then (if aIx ((U.2.2 55) x.toNatClampNeg) 2048 = true then some (((((U.2.2 53) ((U.2.2 55) x.toNatClampNeg).toNatClampNeg) + (50000000 : Int32)), U)) else none) else (if aIx ((U.2.2 55) x.toNatClampNeg) 2048 = true then some ((((U.2.2 54) ((U.2.2 55) x.toNatClampNeg).toNatClampNeg), U)) else none))))) else none) else (X11_one_42_b38 N x U))) := by
      unfold X11_one_42
      simp only [aLet]
      rw [if_neg c1, m_in1 (a := 0) (b := 4) (by decide) (by decide) cy, if_neg n10, u1]
      rfl
    by_cases cm : x = -1
    · refine ⟨_, T, U, h1 cm, ?_, gU⟩
      rw [run, if_pos cm]
      unfold X11_one_42_b38
      rw [if_pos cm, u5.1]
    · obtain ⟨k, hk, rfl⟩ := m_ge c1 cm
      rw [u5.1] at run
      by_cases ck : k < (SI (Dof T) q).length
      · refine ⟨_, T, U, h2 k rfl ck, ?_, gU⟩
        have hs := SI_lt (D := Dof T) (q := q) ck
        obtain ⟨s1, s2, s3, s4, s5, s6, s7⟩ := r_slip u2 (SL_len ok) hs
        rw [run, if_neg cm, if_pos ((nI_ltI hk (by omega)).mpr ck), if_pos (m_ix (by omega) (by decide)), nI_clamp hk, u5.2 k ck, if_pos s1, if_pos s1, if_pos s1, if_pos s1, if_pos s1, s2, s3, s4, s5, s6, s7]
        unfold tl
        rcases (show j = 0 ∨ j = 1 ∨ j = 2 ∨ j = 3 ∨ j = 4 by omega) with rfl | rfl | rfl | rfl | rfl <;> rfl
      · refine ⟨_, T, U, h3 (fun i hi e => ck (by rw [(nI_eq hk (by omega)).mp e]; exact hi)) cm, ?_, gU⟩
        rw [run, if_neg cm, if_neg (fun z => ck ((nI_ltI hk (by omega)).mp z))]
        unfold X11_one_42_b38
        rw [if_neg cm]
  rcases hz with hz | hz
  · rw [if_pos hz]
    refine core qA _ (Or.inl ⟨hz, fun _ => rfl⟩) ?_ ?_ ?_
    · intro cm
      unfold X10_one_0_b36
      rw [if_pos cm, e2.1]
    · intro k hk ck
      subst hk
      have h157 := SI_157 (q := qA) ok
      have hs := SI_lt (D := Dof T) (q := qA) ck
      unfold X10_one_0_b36
      simp only [aLet]
      have e23 : X7_slip_22 (nI k) T = nI ((SI (Dof T) qA).getD k 0) := by
        unfold X7_slip_22 X6_at_23
        simp only [aLet]
        rw [if_neg (nI_pos (by omega)), if_neg (by exact iNLE 157 k (by omega)), nI_clamp (by omega), e2.2.2 k ck]
      rw [if_neg (nI_m1 (by omega)), e2.1, if_pos ((nI_ltI (by omega) (by omega)).mpr ck), e23, c_told14 e1 ok hs hj]
      rfl
    · intro hk cm
      have h157 := SI_157 (q := qA) ok
      unfold X10_one_0_b36
      rw [if_neg cm, e2.1, if_neg]
      intro z
      obtain ⟨k, hkk, rfl⟩ := m_ge c1 cm
      exact hk k ((nI_ltI hkk (by omega)).mp z) rfl
  · rw [if_neg (by rw [hz]; decide)]
    refine core (nar (Dof T) (bOf T) (T.2.2 46)) _ (Or.inr ⟨hz, fun _ => rfl⟩) ?_ ?_ ?_
    · intro cm
      unfold X10_one_0_b36b
      rw [if_pos cm, e3.1]
    · intro k hk ck
      subst hk
      have h157 := SI_157 (q := nar (Dof T) (bOf T) (T.2.2 46)) ok
      have hs := SI_lt (D := Dof T) (q := nar (Dof T) (bOf T) (T.2.2 46)) ck
      unfold X10_one_0_b36b
      simp only [aLet]
      have e23 : X7_slip_25 (nI k) T = nI ((SI (Dof T) (nar (Dof T) (bOf T) (T.2.2 46))).getD k 0) := by
        unfold X7_slip_25 X6_at_26
        simp only [aLet]
        rw [if_neg (nI_pos (by omega)), if_neg (by exact iNLE 157 k (by omega)), nI_clamp (by omega), e3.2.2 k ck]
      rw [if_neg (nI_m1 (by omega)), e3.1, if_pos ((nI_ltI (by omega) (by omega)).mpr ck), e23, c_told14 e1 ok hs hj]
      rfl
    · intro hk cm
      have h157 := SI_157 (q := nar (Dof T) (bOf T) (T.2.2 46)) ok
      unfold X10_one_0_b36b
      rw [if_neg cm, e3.1, if_neg]
      intro z
      obtain ⟨k, hkk, rfl⟩ := m_ge c1 cm
      exact hk k ((nI_ltI hkk (by omega)).mp z) rfl
