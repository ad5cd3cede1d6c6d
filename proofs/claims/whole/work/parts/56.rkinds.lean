/-! slips: the reference lays all -/
theorem chg_0 (D : Dt) (j : Nat) : chg D j 0 = -outBy D.2.1 j := by
  unfold chg outBy
  split
  · exact Int32.zero_sub _
  · rw [Int32.neg_neg]; exact Int32.sub_zero _
theorem r_kind {N j k : Nat} {D : Dt} {L : List Sl} {S : aSt} (hN : 3000 ≤ N) (ok : okD D) (hj : j < D.1) (hk : k < 5) (hL : bef k j L) (hl : L.length ≤ 1921) (hS : slR S L) (hD : lgR S D) : ∃ T, X11_layKind_42 N (nI k) (nI j) S = some T ∧ slR T (L ++ gg D k j) ∧ lgR T D := by
  have hsm := ok.sm hj
  have hn := hsm.2.2
  have he := ok.1
  have hr := nd_range (D.sm j)
  obtain ⟨a1, b1⟩ := r_P (w := 1) hD ok hj (by omega)
  obtain ⟨a0, b0⟩ := r_P (w := 0) hD ok hj (by omega)
  rw [Nat.add_zero] at a0 b0
  rw [hsm.1] at b1
  unfold X11_layKind_42 gg
  rw [m_50, show nI (5 * j) + (1 : Int32) = nI (5 * j + 1) from nI_1 _, if_pos a1, b1]
  by_cases c0 : k = 0
  · subst c0
    rw [if_pos rfl, if_neg (by decide), if_pos (show nI 0 = (0 : Int32) from rfl)]
    exact r_turns hN ok hj hL hl (nd (D.sm j) - 1) 0 N S (by omega) (by omega) (by simp [dT, uT]; exact hS) hD
  rw [if_neg c0]
  by_cases c1 : k = 1
  · subst c1
    rw [if_pos rfl, if_neg (by decide), if_neg (by decide), if_pos (show nI 1 = (1 : Int32) from rfl)]
    obtain ⟨T, t1, t2, t3⟩ := r_figs hN ok hj hL hl (nd (D.sm j)) 0 N S (by omega) (by omega) (by simp [dF, uF]; exact hS) hD
    refine ⟨T, ?_, t2, t3⟩
    unfold X11_layFigures_42
    rw [m_50, show nI (5 * j) + (1 : Int32) = nI (5 * j + 1) from nI_1 _, if_pos a1, b1, show (0 : Int32) = nI 0 from rfl, t1]
    rfl
  rw [if_neg c1]
  by_cases c2 : k = 2
  · subst c2
    have ho := (ok.od (k := 2) hj (by omega)).2
    rw [if_pos rfl, if_neg (by decide), if_neg (by decide), if_neg (by decide), if_pos (show nI 2 = (2 : Int32) from rfl)]
    have ediv : nI (D.sm j) / (10 : Int32) = nI (D.sm j / 10) := pk_div (d := 10) (by omega) (by omega) (by omega)
    have erem : nI (D.sm j) - nI (D.sm j) / (10 : Int32) * (10 : Int32) = nI (D.sm j % 10) := pk_rem (d := 10) (by omega) (by omega) (by omega)
    have emul : (10 : Int32) * nI (D.sm j) = nI (10 * D.sm j) := pk_mul 10 _
    -- the shorter one
    have s1 : ∃ T1, X11_add_42 N (2 : Int32) (nI j) (nI (D.sm j / 10)) (chg D j (D.sm j / 10)) (if D.sm j % 10 = 0 then nI (D.od j 2) else 0) S = some T1 ∧ slR T1 (L ++ ps D 2 j (shN (D.sm j)) (D.od j 2)) ∧ lgR T1 D := by
      unfold ps shN
      by_cases c : D.sm j % 10 = 0
      · rw [if_pos c, if_pos c, if_neg (by omega)]
        exact r_one (k := 2) hN (by omega) (by omega) (by omega) (by omega) hL hl hS hD
      · rw [if_neg c, if_neg c, if_pos rfl, List.append_nil]
        exact ⟨S, by unfold X11_add_42; rw [if_pos rfl], hS, hD⟩
    obtain ⟨T1, p1, p2, p3⟩ := s1
    have s2 : ∃ T2, X11_add_42 N (2 : Int32) (nI j) (nI (10 * D.sm j)) (chg D j (10 * D.sm j)) (if 999999 < 10 * D.sm j then 0 else nI (D.od j 2)) T1 = some T2 ∧ slR T2 (L ++ gN D j) ∧ lgR T2 D := by
      have hps := ps_len D 2 j (shN (D.sm j)) (D.od j 2)
      unfold gN
      rw [← List.append_assoc]
      by_cases c : 999999 < 10 * D.sm j
      · have e : loN (D.sm j) = 0 := by unfold loN; rw [if_pos (by omega)]
        have e2 : ps D 2 j 0 (D.od j 2) = [] := by unfold ps; rw [if_pos rfl]
        rw [if_pos c, e, e2, List.append_nil]
        exact ⟨T1, by unfold X11_add_42; rw [if_pos rfl], p2, p3⟩
      · have e : loN (D.sm j) = 10 * D.sm j := by unfold loN; rw [if_neg (by omega), Nat.mul_comm]
        have e2 : ps D 2 j (10 * D.sm j) (D.od j 2) = pc 2 j (10 * D.sm j) (chg D j (10 * D.sm j)) (D.od j 2) := by unfold ps; rw [if_neg (by omega)]
        rw [if_neg c, e, e2]
        have := r_add (k := 2) (A := L ++ ps D 2 j (shN (D.sm j)) (D.od j 2)) (B := []) (D := D) (p := j) (s := 10 * D.sm j) (c := chg D j (10 * D.sm j)) (w := D.od j 2) (S := T1) hN (by omega) (by omega) (by omega) (by omega) (fun z hz => by
          rcases List.mem_append.mp hz with hz | hz
          · exact ⟨(hL z hz).1, fun h => by have := (hL z hz).2; omega⟩
          · have hsh : shN (D.sm j) ≤ D.sm j := by unfold shN; split <;> omega
            obtain ⟨h1, h2, h3, h4⟩ := ps_ok (by omega) (by omega) (show shN (D.sm j) < 2 ^ 31 by omega) (by omega) hz
            exact ⟨h1, fun h => by omega⟩) (fun z hz => by simp at hz) (by rw [List.append_nil]; exact p2) p3 (by simp only [List.length_append, List.length_nil]; omega)
        simp only [List.append_nil] at this
        exact this
    obtain ⟨T2, q1, q2, q3⟩ := s2
    refine ⟨T2, ?_, q2, q3⟩
    have b142 : ∀ w : Int32, X11_add_42 N (2 : Int32) (nI j) (nI (D.sm j / 10)) (chg D j (D.sm j / 10)) w S = some T1 → X11_layKind_42_b142 N (nI j) (nI (D.sm j)) w (chg D j (D.sm j / 10)) (nI (D.sm j / 10)) (nI j) (2 : Int32) S = some T2 := by
      intro w hw
      unfold X11_layKind_42_b142 X11_layKind_42_b180
      rw [hw]
      simp only [Option.bind_some]
      rw [emul, r_changeBy p3 ok hj]
      simp only [Option.bind_some]
      by_cases c : 999999 < 10 * D.sm j
      · rw [if_pos c] at q1
        rw [if_pos (by exact iLT 999999 (10 * D.sm j) c), q1]; rfl
      · rw [if_neg c] at q1
        rw [if_neg (by exact iNLT 999999 (10 * D.sm j) (by omega)), show X11_oddsOf_42 N (nI j) (2 : Int32) T1 = some (nI (D.od j 2)) from r_odds (k := 2) p3 ok hj (by omega)]
        simp only [Option.bind_some]
        rw [q1]; rfl
    rw [erem, ediv, r_changeBy hD ok hj]
    simp only [Option.bind_some]
    by_cases c : D.sm j % 10 = 0
    · rw [if_pos c] at p1
      rw [if_pos (by rw [c]; rfl), show X11_oddsOf_42 N (nI j) (2 : Int32) S = some (nI (D.od j 2)) from r_odds (k := 2) hD ok hj (by omega)]
      simp only [Option.bind_some]
      exact b142 _ p1
    · rw [if_neg c] at p1
      rw [if_neg (by exact iNE (D.sm j % 10) 0 c)]
      exact b142 _ p1
  rw [if_neg c2]
  by_cases c3 : k = 3
  · subst c3
    have ho := (ok.od (k := 3) hj (by omega)).2
    rw [if_pos rfl, if_neg (by decide), if_neg (by decide), if_neg (by decide), if_neg (by decide), if_pos (show nI 3 = (3 : Int32) from rfl), if_pos a0, b0]
    obtain ⟨T, t1, t2, t3⟩ := r_one (k := 3) (s := D.sm j) (w := D.od j 3) (c := (-2) * outBy D.2.1 j) hN (by omega) (by omega) (by omega) (by omega) hL hl hS hD
    refine ⟨T, ?_, t2, t3⟩
    have key : ∀ c : Int32, c = (-2) * outBy D.2.1 j → X11_layKind_42_b209 N (nI j) c (nI (D.sm j)) (nI j) (3 : Int32) S = some T := by
      intro c hc
      unfold X11_layKind_42_b209
      rw [show X11_oddsOf_42 N (nI j) (3 : Int32) S = some (nI (D.od j 3)) from r_odds (k := 3) hD ok hj (by omega)]
      simp only [Option.bind_some]
      rw [hc, show (3 : Int32) = nI 3 from rfl, t1]; rfl
    unfold outBy at key
    by_cases c : D.2.1 (5 * j) = 0
    · rw [if_pos c]
      rw [if_pos c, hsm.1] at key
      exact key _ rfl
    · rw [if_neg c]
      rw [if_neg c, hsm.1] at key
      exact key _ (by rw [Int32.neg_mul_neg])
  rw [if_neg c3]
  have c4 : k = 4 := by omega
  subst c4
  have ho := (ok.od (k := 4) hj (by omega)).2
  rw [if_pos (by decide), show X11_changeBy_42 N (nI j) (0 : Int32) S = some (chg D j 0) from r_changeBy (s := 0) hD ok hj, chg_0]
  simp only [Option.bind_some]
  rw [X11_isTwice_eq (by omega) (by omega)]
  simp only [Option.bind_some]
  rw [twin_cong (e := D.1) hD.2.1 hj (by omega)]
  unfold gW X11_layKind_42_b247
  cases ht : twin D.2.1 j j with
  | false =>
    rw [if_pos (show b32 false = 0 from rfl), if_neg (by decide), List.append_nil]
    exact ⟨S, by unfold X11_add_42; rw [if_pos rfl]; rfl, hS, hD⟩
  | true =>
    rw [if_neg (show ¬ b32 true = 0 by decide), if_pos rfl]
    obtain ⟨T, t1, t2, t3⟩ := r_one (k := 4) (s := 0) (w := D.od j 4) (c := -outBy D.2.1 j) hN (by omega) (by omega) (by omega) (by omega) hL hl hS hD
    refine ⟨T, ?_, t2, t3⟩
    rw [show X11_oddsOf_42 N (nI j) (4 : Int32) S = some (nI (D.od j 4)) from r_odds (k := 4) hD ok hj (by omega)]
    simp only [Option.bind_some]
    rw [show (4 : Int32) = nI 4 from rfl, show (0 : Int32) = nI 0 from rfl, t1]; rfl
