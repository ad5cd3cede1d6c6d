/-! learn, off, judge -/
theorem X2_setOdds_eq {S : aSt} {a b : Nat} {v : Int32} (ha : a < 4) (hb : b < 5) : X2_setOdds_8 (nI a) (nI b) v S = aI (aA S 10 (upd (S.2.2 10) (5 * a + b) v)) 8 4 (S.1 8 4 + 1) := by
  unfold X2_setOdds_8 X6_set_10
  simp only [aLet]
  have e : nI a * (5 : Int32) + nI b = nI (5 * a + b) := by
    show nI a * nI 5 + nI b = _
    rw [pk_mul, nI_add, Nat.mul_comm]
  rw [e, if_neg (nI_pos (by omega)), if_neg (by exact iNLE 20 (5 * a + b) (by omega)), nI_clamp (by omega), gAi]
theorem m_learn (N : Nat) (x y : Int32) {S : aSt} (h : rO S) : ∃ r S1 S2, X10_learn_0 x y S = (r, S1) ∧ X11_learn_42 N x y S1 = some (r, S2) ∧ rO S2 ∧ (S1 = S ∨ S1.1 8 4 = S.1 8 4 + 1) := by
  unfold X10_learn_0
  simp only [aLet]
  obtain ⟨hh, hc⟩ := m_isHand N x
  obtain ⟨hk, hd⟩ := m_isKind y
  have same : ∀ q : Int32, X11_learn_42 N x y S = some (q, S) → ∃ r S1 S2, (q, S) = (r, S1) ∧ X11_learn_42 N x y S1 = some (r, S2) ∧ rO S2 ∧ (S1 = S ∨ S1.1 8 4 = S.1 8 4 + 1) := fun q hq => ⟨q, S, S, rfl, hq, h, Or.inl rfl⟩
  rcases hc with ⟨hc, a, ha, rfl⟩ | hc
  · rw [hc, if_neg n10]
    rcases hd with ⟨hd, b, hb, rfl⟩ | hd
    · rw [hd, if_neg n10, X2_oddsOf_eq (S := S) ha hb]
      obtain ⟨n, hn, hv⟩ := (h.1 (5 * a + b) (by omega)).2
      have hv2 : S.2.2 47 (5 * a + b) = nI n := by rw [← (h.1 (5 * a + b) (by omega)).1]; exact hv
      have hm : ∃ V : Nat, V ≤ 99 ∧ J9_min_7cf53 (S.2.2 10 (5 * a + b) + (1 : Int32)) (99 : Int32) = nI V ∧ ((99 ≤ n ∧ V = n) ∨ (¬ 99 ≤ n ∧ V = n + 1)) := by
        unfold J9_min_7cf53
        rw [hv, nI_1]
        by_cases c : 99 ≤ n
        · refine ⟨n, hn, ?_, Or.inl ⟨c, rfl⟩⟩
          rw [if_pos (by exact iLT 99 (n + 1) (by omega))]
          have : n = 99 := by omega
          subst this; rfl
        · refine ⟨n + 1, by omega, ?_, Or.inr ⟨c, rfl⟩⟩
          rw [if_neg (by exact iNLT 99 (n + 1) (by omega))]
      obtain ⟨V, hV, hm, hVn⟩ := hm
      rw [hm, X2_setOdds_eq ha hb]
      generalize hS1 : aI (aA S 10 (upd (S.2.2 10) (5 * a + b) (nI V))) 8 4 (S.1 8 4 + 1) = S1
      have q10 : S1.2.2 10 = upd (S.2.2 10) (5 * a + b) (nI V) := by rw [← hS1, gIa, gA, if_pos rfl]
      have qa : ∀ k, k ≠ 10 → S1.2.2 k = S.2.2 k := fun k hk => by rw [← hS1, gIa, gA, if_neg hk]
      have qi : ∀ k j, ¬ (k = 8 ∧ j = 4) → S1.1 k j = S.1 k j := fun k j hk => by rw [← hS1, gI, if_neg hk, gAi]
      have q5 : S1.1 8 4 = S.1 8 4 + 1 := by rw [← hS1, gI, if_pos ⟨rfl, rfl⟩]
      refine ⟨nI V, S1, aA S1 47 (upd (S1.2.2 47) (5 * a + b) (nI V)), ?_, ?_, ⟨fun i hi => ?_, fun i hi => ?_, ?_, ?_, ?_⟩, Or.inr q5⟩
      · rw [X2_oddsOf_eq ha hb, q10, gU, if_pos rfl]
      · unfold X11_learn_42
        simp only [aLet]
        rw [hh]
        simp only [Option.bind_some]
        rw [hc, if_neg n10, hk, hd, if_neg n10, m_5, if_pos (m_ix (show 5 * a + b < 20 by omega) (by decide)), if_pos (m_ix (show 5 * a + b < 20 by omega) (by decide)), nI_clamp (by omega), qa 47 (by decide), hv2]
        unfold X11_learn_42_b53
        rw [m_5, if_pos (m_ix (show 5 * a + b < 20 by omega) (by decide)), if_pos (m_ix (show 5 * a + b < 20 by omega) (by decide)), if_pos (m_ix (show 5 * a + b < 20 by omega) (by decide)), if_pos (m_ix (show 5 * a + b < 20 by omega) (by decide)), nI_clamp (by omega), qa 47 (by decide)]
        rcases hVn with ⟨c, rfl⟩ | ⟨c, rfl⟩
        · have e0 : nI V + 0 = nI V := nI_add V 0
          rw [if_pos (by exact iLE 99 V c), e0, gU, if_pos rfl]
        · rw [if_neg (by exact iNLE 99 n (by omega)), nI_1, gU, if_pos rfl]
      · rw [gA, if_neg (by decide), gA, if_pos rfl, q10, qa 47 (by decide), gU, gU]
        by_cases c : i = 5 * a + b
        · rw [if_pos c, if_pos c]; exact ⟨rfl, V, hV, rfl⟩
        · rw [if_neg c, if_neg c]; exact h.1 i hi
      · rw [gA, if_neg (by decide), gA, if_neg (by decide), qa 11 (by decide), qa 48 (by decide)]; exact h.2.1 i hi
      · rw [gAi, gAi, qi 8 1 (by decide), qi 42 10 (by decide)]; exact h.2.2.1
      · rw [gAi, gAi, qi 8 2 (by decide), qi 42 11 (by decide)]; exact h.2.2.2.1
      · rw [gAi, gAi, qi 8 3 (by decide), qi 42 12 (by decide)]; exact h.2.2.2.2
    · rw [hd, if_pos rfl]
      refine same _ ?_
      unfold X11_learn_42
      simp only [aLet]
      rw [hh]
      simp only [Option.bind_some]
      rw [hc, if_neg n10, hk, hd, if_pos rfl]
  · rw [hc, if_pos rfl]
    refine same _ ?_
    unfold X11_learn_42
    simp only [aLet]
    rw [hh]
    simp only [Option.bind_some]
    rw [hc, if_pos rfl]
theorem m_page (x : Int32) : (∃ p : Nat, p < 6 ∧ x = nI p ∧ X10_isPage x = 1 ∧ X11_in x.toInt64 0 5 = 1) ∨ (X10_isPage x = 0 ∧ X11_in x.toInt64 0 5 = 0) := by
  unfold X10_isPage
  rcases pk_ix x (n := 6) (by decide) with h | h | ⟨p, hp, rfl⟩
  · refine Or.inr ⟨if_pos h, m_in0 (a := 0) (b := 5) (by decide) (by decide) (fun z => Int32.not_lt.mpr z.1 h)⟩
  · refine Or.inr ⟨?_, m_in0 (a := 0) (b := 5) (by decide) (by decide) (fun z => ?_)⟩
    · rw [show (6 : Int32) = nI 6 from rfl, if_pos h, ite_self]
    · exact absurd (Int32.le_trans h z.2) (by decide)
  · refine Or.inl ⟨p, hp, rfl, ?_, m_in1 (a := 0) (b := 5) (by decide) (by decide) ⟨nI_pos' (by omega), by exact iLE p 5 (by omega)⟩⟩
    rw [if_neg (nI_pos (by omega)), if_neg (by exact iNLE 6 p hp)]
theorem m_offs {N : Nat} (hN : 5000 ≤ N) (x : Int32) {S : aSt} (h : rE S) (hD : rD S) : ∃ r, X10_off_0 N x S = some r ∧ X11_off_42 N x S = some r := by
  obtain ⟨e, he, h1, h2, h3, h4⟩ := h
  obtain ⟨hd, dc, dr⟩ := hD.d
  unfold X10_off_0 X11_off_42
  simp only [aLet]
  rcases m_page x with ⟨p, hp, rfl, p1, p2⟩ | ⟨p1, p2⟩
  · rw [p1, p2, if_neg n10, if_neg n10, c_hasDue dc hp, r_hasDue dr hd hp]
    by_cases c : (bOf S).testBit p = true
    · rw [if_pos c, if_neg n10, if_neg n10, X2_outOf_eq (nI p) h1 he (by omega)]
      unfold X11_offOf_42
      rw [X11_outOf_eq (nI p) h2 he (by omega), ← outS_cong h3]
      simp only [Option.bind_some]
      rw [if_pos (m_ix hp (by decide)), nI_clamp (by omega), c_dueOf dc hp c]
      simp only [Option.bind_some]
      exact ⟨_, rfl, rfl⟩
    · rw [if_neg c, if_pos rfl, if_pos rfl]
      exact ⟨_, rfl, rfl⟩
  · rw [p1, p2, if_pos rfl, if_pos rfl]
    exact ⟨_, rfl, rfl⟩
theorem b32_0 (b : Bool) : b32 b = (0 : Int32) ↔ ¬ b = true := by cases b <;> decide
theorem dg_0 {n k : Nat} (hn : n ≤ 999999) (hk : nd n ≤ k) : dg n k = 0 := by
  have h6 : n < 10 ^ nd n := by
    unfold nd
    (repeat' split) <;> omega
  unfold dg
  rw [Nat.div_eq_of_lt (Nat.lt_of_lt_of_le h6 (Nat.pow_le_pow_right (by decide) hk))]
theorem df_ext {n w : Nat} (hn : n ≤ 999999) (hw : w ≤ 999999) (e : nd n = nd w) : ∀ m, nd n ≤ m → df n w m = df n w (nd n) := by
  intro m
  induction m with
  | zero => intro h; rw [show nd n = 0 by omega]
  | succ m ih =>
    intro h
    by_cases c : nd n = m + 1
    · rw [c]
    · rw [df, ih (by omega), dg_0 hn (by omega), dg_0 hw (by omega), if_pos rfl]
      rfl
def fg (n w : Nat) : Bool := decide (nd n = nd w) && decide (df n w (nd n) = 1)
theorem r_figu {N n w : Nat} (hN : 10 ≤ N) (hn : n ≤ 999999) (hw : w ≤ 999999) (h0 : 0 < w) : X11_isFigure N (nI n) (nI w) = some (b32 (fg n w)) := by
  rw [X11_isFigure_eq hN hn hw]
  unfold fg
  by_cases e : nd n = nd w
  · rw [df_ext hn hw e 6 (nd_range n).2]
    simp [e, h0]
  · simp [e]
/-- the kind between two sums -/
def kb (n w : Nat) : Int32 := if isTn n (nI w) (nd n - 1) = true then 0 else if fg n w = true then 1 else if 10 * n = w ∨ 10 * w = n then 2 else -1
theorem c_kind {N n w : Nat} (hN : 10 ≤ N) (hn0 : 1 ≤ n) (hn : n ≤ 999999) (hw0 : 1 ≤ w) (hw : w ≤ 999999) : X0_kindBetween N (nI n) (nI w) = some (kb n w) := by
  have h2 : X0_isOneFigure N (nI n) (nI w) = some (b32 (fg n w)) := X0_isOneFigure_eq hN hn hw
  unfold X0_kindBetween kb
  rw [X0_isTurn_eq _ hN hn, h2]
  simp only [Option.bind_some, aLet]
  by_cases c1 : isTn n (nI w) (nd n - 1) = true
  · rw [if_neg (fun z => (b32_0 _).mp z c1), if_pos c1]
  · rw [if_pos ((b32_0 _).mpr c1), if_neg c1]
    by_cases c2 : fg n w = true
    · rw [if_neg (fun z => (b32_0 _).mp z c2), if_pos c2]
    · rw [if_pos ((b32_0 _).mpr c2), if_neg c2, X0_shorter_eq (by omega), X0_longer_eq (by omega)]
      have hs : shN n < 2 ^ 31 := by unfold shN; split <;> omega
      have hl : loN n < 2 ^ 31 := by unfold loN; split <;> omega
      by_cases c3 : 10 * n = w ∨ 10 * w = n
      · rw [if_pos c3]
        by_cases c4 : shN n = w
        · rw [if_pos (by rw [c4])]
        · have e5 : loN n = w := by
            unfold loN
            unfold shN at c4
            split at c4 <;> split <;> omega
          rw [if_neg (by rw [nI_eq hs (by omega)]; exact c4), if_pos (by rw [e5])]
      · have a1 : ¬ nI (shN n) = nI w := by
          rw [nI_eq hs (by omega)]
          intro z
          unfold shN at z
          split at z <;> omega
        have a2 : ¬ nI (loN n) = nI w := by
          rw [nI_eq hl (by omega)]
          intro z
          unfold loN at z
          split at z <;> omega
        rw [if_neg c3, if_neg a1, if_neg a2]
theorem r_turn {N n w : Nat} (hN : 10 ≤ N) (hn : n ≤ 999999) (hw0 : 1 ≤ w) (hw : w ≤ 999999) : X11_isTurned N (nI n) (nI w) = some (b32 (isTn n (nI w) (nd n - 1))) := by
  rw [X11_isTurned_eq _ hN hn, if_neg (by exact iNLE w 0 (by omega))]
theorem t10 (n : Nat) : (10 : Int32) * nI n = nI (10 * n) := pk_mul 10 n
theorem m_judge {N : Nat} (hN : 5000 ≤ N) (x y z : Int32) {S : aSt} (h : rE S) : ∃ r, X10_judge_0 N x y z S = some r ∧ X11_judge_42 N x y z S = some r := by
  obtain ⟨e, he, h1, h2, h3, h4⟩ := h
  unfold X10_judge_0 X11_judge_42
  simp only [aLet]
  rcases m_isEntry (N := N) (x := x) h2 he with ⟨j, hj, rfl, hi, -⟩ | ⟨hn, hi⟩
  · rw [hi, (m_holds h1 he).1 j hj rfl, if_neg n10]
    simp only [Option.bind_some]
    rw [if_neg n10]
    rcases m_side y with ⟨s1, s2, s3⟩ | ⟨s1, s3⟩
    · rw [s1, if_neg n10, s3, if_neg n10]
      obtain ⟨ok0, ⟨n, hn0, hn9, hn⟩, -⟩ := h4 j hj
      have hP0 : X2_told_8 (nI j) (0 : Int32) S = S.2.2 9 (5 * j) := X2_told_eq (w := 0) (by omega)
      have hP1 : X2_told_8 (nI j) (1 : Int32) S = nI n := by rw [← hn]; exact X2_told_eq (w := 1) (by omega)
      have hR0 : S.2.2 45 (5 * j) = S.2.2 9 (5 * j) := (h3 _ (by omega)).symm
      have hR1 : S.2.2 45 (5 * j + 1) = nI n := by rw [← hn]; exact (h3 _ (by omega)).symm
      rw [m_50, nI_1, if_pos (m_ix (show 5 * j + 1 < 150 by omega) (by decide)), if_pos (m_ix (show 5 * j < 150 by omega) (by decide)), nI_clamp (by omega), nI_clamp (by omega), hR0, hR1]
      have tw := twin_cong h3 hj (k := j) (by omega)
      have core : (z = 0 ∨ isSm z) → ∃ r, X10_judge_0_b35 N S (nI j) y z = some r ∧ (if S.2.2 9 (5 * j) = y then X11_judge_42_b65 N S (nI j) z (nI n) 1 else X11_judge_42_b65 N S (nI j) z (nI n) 0) = some r := by
        intro hz
        unfold X10_judge_0_b35 X11_judge_42_b65
        simp only [aLet]
        rw [hP0, hP1]
        by_cases cs : S.2.2 9 (5 * j) = y
        · rw [if_pos cs, if_pos cs.symm]
          by_cases c0 : z = 0
          · rw [if_pos c0, if_pos c0, if_neg n10, X2_hasTwin_eq (by omega) (by omega), X11_isTwice_eq (by omega) (by omega), ← tw]
            simp only [Option.bind_some]
            by_cases ct : twin (S.2.2 9) j j = true
            · rw [if_neg (fun q => (b32_0 _).mp q ct)]; exact ⟨_, rfl, rfl⟩
            · rw [if_pos ((b32_0 _).mpr ct)]; exact ⟨_, rfl, rfl⟩
          · obtain ⟨w, hw0, hw9, rfl⟩ := hz.resolve_left c0
            rw [if_neg c0, if_neg c0, if_neg n10, c_kind (by omega) hn0 hn9 hw0 hw9, r_turn (by omega) hn9 hw0 hw9]
            simp only [Option.bind_some]
            refine ⟨kb n w, rfl, ?_⟩
            unfold kb
            by_cases c1 : isTn n (nI w) (nd n - 1) = true
            · rw [if_neg (fun q => (b32_0 _).mp q c1), if_pos c1]
            · rw [if_pos ((b32_0 _).mpr c1), if_neg c1]
              unfold X11_judge_42_b108
              rw [if_neg n10, r_figu (by omega) hn9 hw9 hw0]
              simp only [Option.bind_some]
              by_cases c2 : fg n w = true
              · rw [if_neg (fun q => (b32_0 _).mp q c2), if_pos c2]
              · rw [if_pos ((b32_0 _).mpr c2), if_neg c2]
                unfold X11_judge_42_b126 X11_judge_42_b153
                rw [if_neg n10, t10, t10, if_neg n10]
                by_cases c3 : 10 * n = w
                · rw [if_pos (by rw [c3]), if_pos (Or.inl c3)]
                · rw [if_neg (by rw [nI_eq (by omega) (by omega)]; exact c3)]
                  by_cases c4 : 10 * w = n
                  · rw [if_pos (by rw [c4]), if_pos (Or.inr c4)]
                  · rw [if_neg (by rw [nI_eq (by omega) (by omega)]; exact c4), if_neg (by omega)]
        · rw [if_neg cs, if_neg (fun q => cs q.symm)]
          by_cases c0 : z = 0
          · subst c0
            rw [if_pos rfl, if_pos trivial, if_neg (by exact iNE 0 n (by omega))]
            exact ⟨_, rfl, rfl⟩
          · rw [if_neg c0, if_pos trivial]
            unfold X11_judge_42_b108
            rw [if_pos rfl]
            unfold X11_judge_42_b126
            rw [if_pos rfl]
            unfold X11_judge_42_b153
            rw [if_pos rfl]
            by_cases c1 : z = nI n
            · rw [if_pos c1, if_pos c1.symm]; exact ⟨_, rfl, rfl⟩
            · rw [if_neg c1, if_neg (fun q => c1 q.symm)]; exact ⟨_, rfl, rfl⟩
      by_cases c0 : z = 0
      · have hc := core (Or.inl c0)
        rw [if_pos c0, m_in1 (x := z) (a := 0) (b := 999999) (by decide) (by decide) (by rw [c0]; decide), if_neg n10]
        exact hc
      · rw [if_neg c0]
        rcases m_sum z with ⟨u1, u2, u3⟩ | ⟨u1, u3⟩
        · have hc := core (Or.inr u2)
          obtain ⟨w, hw0, hw9, rfl⟩ := u2
          rw [u1, if_neg n10, m_in1 (x := nI w) (a := 0) (b := 999999) (by decide) (by decide) ⟨nI_pos' (by omega), by exact iLE w 999999 hw9⟩, if_neg n10]
          exact hc
        · have u4 : X11_in z.toInt64 0 999999 = 0 := by
            refine m_in0 (a := 0) (b := 999999) (by decide) (by decide) (fun q => ?_)
            obtain ⟨w, hw, rfl⟩ := m_nat q.1
            have hw9 : w ≤ 999999 := by have := q.2; rw [show (999999 : Int32) = nI 999999 from rfl, nI_leI hw (by omega)] at this; exact this
            have hw0 : 1 ≤ w := by
              rcases Nat.eq_zero_or_pos w with c | c
              · subst c; exact absurd rfl c0
              · exact c
            rw [m_in1 (x := nI w) (a := 1) (b := 999999) (by decide) (by decide) ⟨by exact iLE 1 w hw0, by exact iLE w 999999 hw9⟩] at u3
            exact absurd u3 (by decide)
          rw [u1, if_pos rfl, u4, if_pos rfl]
          exact ⟨_, rfl, rfl⟩
    · rw [s1, if_pos rfl, s3, if_pos rfl]
      exact ⟨_, rfl, rfl⟩
  · rw [hi, (m_holds h1 he).2 hn]
    exact ⟨-2, rfl, rfl⟩
