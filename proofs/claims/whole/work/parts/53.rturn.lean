/-! slips: the reference lays turns and figures -/
def bef (k j : Nat) (L : List Sl) : Prop := ∀ x ∈ L, okS x ∧ (x.1 < k ∨ (x.1 = k ∧ x.2.1 < j))
theorem r_P {S : aSt} {D : Dt} (hD : lgR S D) (ok : okD D) {j w : Nat} (hj : j < D.1) (hw : w < 5) : aIx (nI (5 * j + w)) 150 = true ∧ S.2.2 45 (nI (5 * j + w)).toNatClampNeg = D.2.1 (5 * j + w) := by
  have := ok.1
  exact ⟨m_ix (by omega) (by decide), by rw [nI_clamp (by omega)]; exact hD.2.1 _ (by omega)⟩
theorem r_changeBy {N : Nat} {S : aSt} {D : Dt} (hD : lgR S D) (ok : okD D) {j s : Nat} (hj : j < D.1) : X11_changeBy_42 N (nI j) (nI s) S = some (chg D j s) := by
  unfold X11_changeBy_42 chg
  obtain ⟨a0, b0⟩ := r_P (w := 0) hD ok hj (by omega)
  obtain ⟨a1, b1⟩ := r_P (w := 1) hD ok hj (by omega)
  rw [Nat.add_zero] at a0 b0
  rw [m_50, show nI (5 * j) + (1 : Int32) = nI (5 * j + 1) from nI_1 _, if_pos a0, if_pos a1, if_pos a1, b1, b0]
  split <;> rfl
theorem r_odds {N : Nat} {S : aSt} {D : Dt} (hD : lgR S D) (ok : okD D) {j k : Nat} (hj : j < D.1) (hk : k < 5) : X11_oddsOf_42 N (nI j) (nI k) S = some (nI (D.od j k)) := by
  unfold X11_oddsOf_42
  obtain ⟨a3, b3⟩ := r_P (w := 3) hD ok hj (by omega)
  have h4 := (ok.hd hj).2
  rw [m_50, m_a3, if_pos a3, b3, (ok.hd hj).1, m_5, if_pos (m_ix (by omega) (by decide)), nI_clamp (by omega), hD.2.2.1 _ (by omega), (ok.od hj hk).1]
theorem pc_mem {k p s w : Nat} {c : Int32} {x : Sl} (h : x ∈ pc k p s c w) : x = ⟨k, p, s, c, w⟩ := by
  unfold pc at h
  split at h
  · simp at h
  · simpa using h
theorem ps_mem {D : Dt} {k j s w : Nat} {x : Sl} (h : x ∈ ps D k j s w) : x = ⟨k, j, s, chg D j s, w⟩ := by
  unfold ps at h
  split at h
  · simp at h
  · exact pc_mem h
theorem gT_b {D : Dt} {j : Nat} (ok : okD D) (hj : j < D.1) : ∀ {m : Nat}, m ≤ 5 → ∀ x ∈ dT D j m ++ uT D j 0 m, okS x ∧ x.1 = 0 ∧ x.2.1 = j ∧ D.sm j < x.2.2.1 + 9 * 10 ^ m ∧ x.2.2.1 < D.sm j + 9 * 10 ^ m := by
  have hn := (ok.sm hj).2.2
  have ho := (ok.od (k := 0) hj (by omega)).2
  have he := ok.1
  intro m
  induction m with
  | zero => intro _ x hx; simp [dT, uT] at hx
  | succ m ih =>
    intro hm x hx
    have hp := m_p10b (show m < 7 by omega)
    have e10 : 10 ^ (m + 1) = 10 * 10 ^ m := by rw [Nat.pow_succ, Nat.mul_comm]
    rw [e10]
    rw [dT, uT_c] at hx
    simp only [List.mem_append] at hx
    have old : x ∈ dT D j m ++ uT D j 0 m → okS x ∧ x.1 = 0 ∧ x.2.1 = j ∧ D.sm j < x.2.2.1 + 9 * (10 * 10 ^ m) ∧ x.2.2.1 < D.sm j + 9 * (10 * 10 ^ m) := fun h => by
      obtain ⟨h1, h2, h3, h4, h5⟩ := ih (by omega) x h
      exact ⟨h1, h2, h3, by omega, by omega⟩
    have new : x ∈ ps D 0 j (tnN (D.sm j) m) (D.od j 0) → okS x ∧ x.1 = 0 ∧ x.2.1 = j ∧ D.sm j < x.2.2.1 + 9 * (10 * 10 ^ m) ∧ x.2.2.1 < D.sm j + 9 * (10 * 10 ^ m) := fun h => by
      have hb := tnN_b (n := D.sm j) (show m < 6 by omega)
      have hne : tnN (D.sm j) m ≠ 0 := fun z => by unfold ps at h; rw [if_pos z] at h; simp at h
      have hlt := tnN_lt hn (show m < 6 by omega)
      rw [ps_mem h]
      exact ⟨⟨(by decide : 0 < 2 ^ 31), (show j < 2 ^ 31 by omega), hlt, (show D.od j 0 < 2 ^ 31 by omega)⟩, rfl, rfl, (show D.sm j < tnN (D.sm j) m + 9 * (10 * 10 ^ m) by omega), (show tnN (D.sm j) m < D.sm j + 9 * (10 * 10 ^ m) by omega)⟩
    rcases hx with (h | h) | (h | h)
    · unfold pD at h; split at h
      · exact new h
      · simp at h
    · exact old (List.mem_append_left _ h)
    · exact old (List.mem_append_right _ h)
    · unfold pU at h; split at h
      · exact new h
      · simp at h
theorem r_turns {N j : Nat} {D : Dt} {L : List Sl} (hN : 3000 ≤ N) (ok : okD D) (hj : j < D.1) (hL : bef 0 j L) (hl : L.length ≤ 1921) : ∀ (m k f : Nat) (S : aSt), k + m = nd (D.sm j) - 1 → m < f → slR S (L ++ (dT D j k ++ uT D j 0 k)) → lgR S D → ∃ T, X11_layKind_42_l47 N f (nI j) (nI (D.sm j)) (nI k) S = some T ∧ slR T (L ++ gT D j) ∧ lgR T D := by
  have hn := (ok.sm hj).2.2
  have hr := nd_range (D.sm j)
  have ho := (ok.od (k := 0) hj (by omega)).2
  have he := ok.1
  intro m
  induction m with
  | zero =>
    intro k f S hk hf hS hD
    obtain ⟨f, rfl⟩ : ∃ q, f = q + 1 := ⟨f - 1, by omega⟩
    have : k = nd (D.sm j) - 1 := by omega
    subst this
    refine ⟨S, ?_, hS, hD⟩
    show X11_layKind_42_b47 N (X11_layKind_42_l47 N f) _ _ _ _ = _
    unfold X11_layKind_42_b47
    rw [X11_figures_eq (by omega) hn]
    simp only [Option.bind_some]
    rw [nI_1, if_pos (by exact iLE (nd (D.sm j)) (nd (D.sm j) - 1 + 1) (by omega))]
  | succ m ih =>
    intro k f S hk hf hS hD
    obtain ⟨f, rfl⟩ : ∃ q, f = q + 1 := ⟨f - 1, by omega⟩
    have hb := tnN_b (n := D.sm j) (show k < 6 by omega)
    have hlt := tnN_lt hn (show k < 6 by omega)
    have hp := m_p10b (show k < 7 by omega)
    have step : ∃ T1, X11_add_42 N (0 : Int32) (nI j) (nI (tnN (D.sm j) k)) (chg D j (tnN (D.sm j) k)) (if tnN (D.sm j) k = 0 then 0 else nI (D.od j 0)) S = some T1 ∧ slR T1 (L ++ (dT D j (k + 1) ++ uT D j 0 (k + 1))) ∧ lgR T1 D := by
      have hg := gT_b ok hj (show k ≤ 5 by omega)
      have hlen := gT_len (D := D) (j := j) k
      rw [dT, uT_c]
      by_cases c0 : tnN (D.sm j) k = 0
      · have e1 : pD D j k = [] := by unfold pD ps; rw [if_pos c0, ite_self]
        have e2 : pU D j k = [] := by unfold pU ps; rw [if_pos c0, ite_self]
        refine ⟨S, ?_, by rw [e1, e2, List.nil_append, List.append_nil]; exact hS, hD⟩
        rw [if_pos c0]
        unfold X11_add_42
        rw [if_pos rfl]
      · rw [if_neg c0]
        rcases hb.2.2 with h | h | h
        · exact absurd h c0
        · have e1 : pD D j k = pc 0 j (tnN (D.sm j) k) (chg D j (tnN (D.sm j) k)) (D.od j 0) := by unfold pD ps; rw [if_pos (by omega), if_neg c0]
          have e2 : pU D j k = [] := by unfold pU; rw [if_neg (by omega)]
          rw [e1, e2, List.append_nil, List.append_assoc]
          exact r_add (k := 0) hN (by omega) (by omega) (by omega) hlt (fun x hx => ⟨(hL x hx).1, fun z => by have := (hL x hx).2; omega⟩) (fun x hx => by
            obtain ⟨h1, h2, h3, h4, h5⟩ := hg x hx
            exact ⟨h1, by omega, h2, h3, by omega⟩) hS hD (by simp only [List.length_append]; omega)
        · have e1 : pD D j k = [] := by unfold pD; rw [if_neg (by omega)]
          have e2 : pU D j k = pc 0 j (tnN (D.sm j) k) (chg D j (tnN (D.sm j) k)) (D.od j 0) := by unfold pU ps; rw [if_pos (by omega), if_neg c0]
          rw [e1, e2, List.nil_append]
          have := r_add (k := 0) (A := L ++ (dT D j k ++ uT D j 0 k)) (B := []) (p := j) (s := tnN (D.sm j) k) (w := D.od j 0) (c := chg D j (tnN (D.sm j) k)) hN (by omega) (by omega) (by omega) hlt (fun x hx => by
            rcases List.mem_append.mp hx with hx | hx
            · exact ⟨(hL x hx).1, fun z => by have := (hL x hx).2; omega⟩
            · obtain ⟨h1, h2, h3, h4, h5⟩ := hg x hx
              exact ⟨h1, fun z => by omega⟩) (fun x hx => by simp at hx) (by rw [List.append_nil]; exact hS) hD (by simp only [List.length_append, List.length_nil]; omega)
          simp only [List.append_nil, List.append_assoc] at this ⊢
          exact this
    obtain ⟨T1, q1, q2, q3⟩ := step
    obtain ⟨T, t1, t2, t3⟩ := ih (k + 1) f T1 (by omega) (by omega) q2 q3
    refine ⟨T, ?_, t2, t3⟩
    rw [← t1]
    show X11_layKind_42_b47 N (X11_layKind_42_l47 N f) _ _ _ _ = _
    unfold X11_layKind_42_b47 X11_layKind_42_b93
    rw [X11_figures_eq (by omega) hn]
    simp only [Option.bind_some]
    rw [nI_1, if_neg (by exact iNLE (nd (D.sm j)) (k + 1) (by omega)), X11_turned_eq (by omega) hn (by omega), tn_N hn (by omega)]
    simp only [Option.bind_some]
    rw [r_changeBy hD ok hj]
    simp only [Option.bind_some]
    by_cases c0 : tnN (D.sm j) k = 0
    · rw [if_pos c0] at q1
      rw [if_pos (by rw [c0]; rfl), q1]
      rfl
    · rw [if_neg c0] at q1
      rw [if_neg (by exact iNE (tnN (D.sm j) k) 0 c0), show X11_oddsOf_42 N (nI j) (0 : Int32) S = some (nI (D.od j 0)) from r_odds (k := 0) hD ok hj (by omega)]
      simp only [Option.bind_some]
      rw [q1]
      rfl
