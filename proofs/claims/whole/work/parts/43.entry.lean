/-! entry, out, odds, count -/
theorem m_isEntry {S : aSt} {N e : Nat} {x : Int32} (h : S.1 42 5 = nI e) (he : e ≤ 30) : (∃ j, j < e ∧ x = nI j ∧ X11_isEntry_42 N x S = some 1 ∧ X2_holds_8 x { fst := S.1, snd := S.2 } = (if S.1 8 0 ≤ x then 0 else 1)) ∨ ((∀ j, j < e → x ≠ nI j) ∧ X11_isEntry_42 N x S = some 0) := by
  have hm : (nI e - 1).toInt = (e : Int) - 1 := by
    have := pk_sub_toInt (a := e) (b := 1) (by omega) (by omega)
    exact this
  unfold X11_isEntry_42
  simp only [aLet]
  rw [h]
  by_cases hx : (0 : Int32) ≤ x ∧ x ≤ nI e - 1
  · rw [m_in1 (a := 0) (b := nI e - 1) (by decide) rfl hx, if_pos (Or.inr rfl)]
    obtain ⟨j, hj, rfl⟩ := m_nat hx.1
    left
    have h2 : (nI j).toInt ≤ (nI e - 1).toInt := Int32.le_iff_toInt_le.mp hx.2
    rw [hm, nI_toInt hj] at h2
    refine ⟨j, by omega, rfl, rfl, ?_⟩
    unfold X2_holds_8
    rw [if_neg (nI_pos hj)]
  · rw [m_in0 (a := 0) (b := nI e - 1) (by decide) rfl hx, if_pos (Or.inl rfl)]
    right
    refine ⟨fun j hj e1 => hx ?_, rfl⟩
    subst e1
    refine ⟨nI_pos' (by omega), Int32.le_iff_toInt_le.mpr ?_⟩
    rw [hm, nI_toInt (by omega)]
    omega
theorem m_holds {S : aSt} {e : Nat} {x : Int32} (h : S.1 8 0 = nI e) (he : e ≤ 30) : (∀ j, j < e → x = nI j → X2_holds_8 x S = 1) ∧ ((∀ j, j < e → x ≠ nI j) → X2_holds_8 x S = 0) := by
  unfold X2_holds_8
  constructor
  · intro j hj e1
    subst e1
    rw [if_neg (nI_pos (by omega)), if_neg (by rw [h, nI_leI (by omega) (by omega)]; omega)]
  · intro hn
    by_cases h0 : x < 0
    · rw [if_pos h0]
    · rw [if_neg h0]
      obtain ⟨j, hj, rfl⟩ := nI_of h0
      rw [if_pos]
      rw [h, nI_leI (by omega) hj]
      exact Nat.le_of_not_lt (fun z => hn j z rfl)
theorem m_entry (N : Nat) (x w : Int32) {S : aSt} (h : rE S) : X11_entry_42 N x w S = some (X10_entry_0 x w S) := by
  obtain ⟨e, he, h1, h2, h3, h4⟩ := h
  unfold X11_entry_42 X10_entry_0
  simp only [aLet]
  rcases m_isEntry (N := N) (x := x) h2 he with ⟨j, hj, rfl, hi, -⟩ | ⟨hn, hi⟩
  · rw [hi, (m_holds h1 he).1 j hj rfl, if_neg n10]
    simp only [Option.bind_some]
    rw [if_neg n10]
    by_cases hw : (0 : Int32) ≤ w ∧ w ≤ 4
    · rw [m_in1 (a := 0) (b := 4) (by decide) (by decide) hw, if_neg n10, if_neg (Int32.not_lt.mpr hw.1)]
      obtain ⟨k, hk, rfl⟩ := m_nat hw.1
      have hk4 : k ≤ 4 := by have := hw.2; rw [show (4 : Int32) = nI 4 from rfl, nI_leI hk (by omega)] at this; exact this
      have hk5 : nI k < 5 := by rw [show (5 : Int32) = nI 5 from rfl, nI_ltI hk (by omega)]; omega
      rw [if_pos hk5, m_5, if_pos (m_ix (show 5 * j + k < 150 by omega) (by decide)), nI_clamp (by omega), X2_told_eq (by omega), h3 _ (by omega)]
    · rw [m_in0 (a := 0) (b := 4) (by decide) (by decide) hw, if_pos rfl]
      by_cases c1 : w < 0
      · rw [if_pos c1]
      · rw [if_neg c1, if_neg]
        intro c2
        refine hw ⟨Int32.not_lt.mp c1, ?_⟩
        obtain ⟨k, hk, rfl⟩ := nI_of c1
        rw [show (5 : Int32) = nI 5 from rfl, nI_ltI hk (by omega)] at c2
        rw [show (4 : Int32) = nI 4 from rfl, nI_leI hk (by omega)]
        omega
  · rw [hi, (m_holds h1 he).2 hn]
    rfl
theorem m_out {N : Nat} (hN : 5000 ≤ N) (x : Int32) {S : aSt} (h : rE S) : ∃ r, X10_out_0 N x S = some r ∧ X11_out_42 N x S = some r := by
  obtain ⟨e, he, h1, h2, h3, h4⟩ := h
  have ha := X2_outOf_eq (N := N) x h1 he (by omega)
  have hb := X11_outOf_eq (N := N) x h2 he (by omega)
  rw [← outS_cong h3] at hb
  unfold X10_out_0 X11_out_42 X10_out_0_b15
  simp only [aLet]
  rw [ha, hb]
  simp only [Option.bind_some]
  by_cases c : (-1 : Int32) ≤ x ∧ x ≤ 5
  · rw [m_in1 (a := -1) (b := 5) (by decide) (by decide) c, if_neg n10]
    by_cases c1 : x = -1
    · rw [if_pos c1]
      exact ⟨_, rfl, rfl⟩
    · rw [if_neg c1]
      have hp : X10_isPage x = 1 := by
        unfold X10_isPage
        have h0 : ¬ x < 0 := by
          intro z
          apply c1
          have a1 := Int32.le_iff_toInt_le.mp c.1
          have a2 := Int32.lt_iff_toInt_lt.mp z
          apply Int32.toInt_inj.mp
          rw [show ((-1 : Int32)).toInt = -1 from by decide] at a1 ⊢
          rw [show ((0 : Int32)).toInt = 0 from by decide] at a2
          omega
        rw [if_neg h0, if_neg]
        intro z
        exact absurd (Int32.le_trans z c.2) (by decide)
      rw [hp, if_neg n10]
      exact ⟨_, rfl, rfl⟩
  · rw [m_in0 (a := -1) (b := 5) (by decide) (by decide) c, if_pos rfl]
    have c1 : ¬ x = -1 := fun z => c (by subst z; decide)
    have hp : X10_isPage x = 0 := by
      unfold X10_isPage
      by_cases h0 : x < 0
      · rw [if_pos h0]
      · rw [if_neg h0, if_pos]
        refine Classical.byContradiction fun z => c ⟨Int32.le_trans (by decide) (Int32.not_lt.mp h0), ?_⟩
        obtain ⟨k, hk, rfl⟩ := nI_of h0
        rw [show (6 : Int32) = nI 6 from rfl, nI_leI (by omega) hk] at z
        rw [show (5 : Int32) = nI 5 from rfl, nI_leI hk (by omega)]
        omega
    rw [if_neg c1, hp, if_pos rfl]
    exact ⟨_, rfl, rfl⟩
theorem m_isHand (N : Nat) (x : Int32) : X11_isHand N x = some (X10_isHand x) ∧ ((X10_isHand x = 1 ∧ ∃ j, j < 4 ∧ x = nI j) ∨ X10_isHand x = 0) := by
  unfold X11_isHand X10_isHand
  simp only [aLet]
  by_cases h0 : x < 0
  · rw [m_in0 (a := 0) (b := 3) (by decide) (by decide) (fun z => Int32.not_lt.mpr z.1 h0), if_pos (Or.inl rfl), if_pos h0]
    exact ⟨rfl, Or.inr rfl⟩
  · rw [if_neg h0]
    obtain ⟨j, hj, rfl⟩ := nI_of h0
    by_cases h4 : (4 : Int32) ≤ nI j
    · rw [if_pos h4]
      have : ¬ j ≤ 3 := by rw [show (4 : Int32) = nI 4 from rfl, nI_leI (by omega) hj] at h4; omega
      rw [m_in0 (a := 0) (b := 3) (by decide) (by decide) (fun z => this (by have := z.2; rw [show (3 : Int32) = nI 3 from rfl, nI_leI hj (by omega)] at this; exact this)), if_pos (Or.inl rfl)]
      exact ⟨rfl, Or.inr rfl⟩
    · rw [if_neg h4]
      have : j < 4 := by rw [show (4 : Int32) = nI 4 from rfl, nI_leI (by omega) hj] at h4; omega
      rw [m_in1 (a := 0) (b := 3) (by decide) (by decide) ⟨nI_pos' hj, by rw [show (3 : Int32) = nI 3 from rfl, nI_leI hj (by omega)]; omega⟩, if_pos (Or.inr rfl)]
      exact ⟨rfl, Or.inl ⟨rfl, j, this, rfl⟩⟩
theorem m_isKind (x : Int32) : X11_in x.toInt64 0 4 = X10_isEntryKind x ∧ ((X10_isEntryKind x = 1 ∧ ∃ j, j < 5 ∧ x = nI j) ∨ X10_isEntryKind x = 0) := by
  unfold X10_isEntryKind
  by_cases h0 : x < 0
  · rw [m_in0 (a := 0) (b := 4) (by decide) (by decide) (fun z => Int32.not_lt.mpr z.1 h0), if_pos h0]
    exact ⟨rfl, Or.inr rfl⟩
  · rw [if_neg h0]
    obtain ⟨j, hj, rfl⟩ := nI_of h0
    by_cases h4 : (5 : Int32) ≤ nI j
    · rw [if_pos h4]
      have : ¬ j ≤ 4 := by rw [show (5 : Int32) = nI 5 from rfl, nI_leI (by omega) hj] at h4; omega
      rw [m_in0 (a := 0) (b := 4) (by decide) (by decide) (fun z => this (by have := z.2; rw [show (4 : Int32) = nI 4 from rfl, nI_leI hj (by omega)] at this; exact this))]
      exact ⟨rfl, Or.inr rfl⟩
    · rw [if_neg h4]
      have : j < 5 := by rw [show (5 : Int32) = nI 5 from rfl, nI_leI (by omega) hj] at h4; omega
      rw [m_in1 (a := 0) (b := 4) (by decide) (by decide) ⟨nI_pos' hj, by rw [show (4 : Int32) = nI 4 from rfl, nI_leI hj (by omega)]; omega⟩]
      exact ⟨rfl, Or.inl ⟨rfl, j, this, rfl⟩⟩
theorem X2_oddsOf_eq {S : aSt} {a b : Nat} (ha : a < 4) (hb : b < 5) : X2_oddsOf_8 (nI a) (nI b) S = S.2.2 10 (5 * a + b) := by
  unfold X2_oddsOf_8 X6_at_10
  simp only [aLet]
  have e : nI a * (5 : Int32) + nI b = nI (5 * a + b) := by
    show nI a * nI 5 + nI b = _
    rw [pk_mul, nI_add, Nat.mul_comm]
  rw [e, if_neg (nI_pos (by omega)), if_neg (fun z => by rw [show (20 : Int32) = nI 20 from rfl, nI_leI (by omega) (by omega)] at z; omega), nI_clamp (by omega)]
theorem m_odds (N : Nat) (x y : Int32) {S : aSt} (h : rO S) : X11_odds_42 N x y S = some (X10_odds_0 x y S) := by
  unfold X11_odds_42 X10_odds_0
  simp only [aLet]
  obtain ⟨hh, hc⟩ := m_isHand N x
  obtain ⟨hk, hd⟩ := m_isKind y
  rw [hh, hk]
  simp only [Option.bind_some]
  rcases hc with ⟨hc, a, ha, rfl⟩ | hc
  · rw [hc, if_neg n10, if_neg n10]
    rcases hd with ⟨hd, b, hb, rfl⟩ | hd
    · rw [hd, if_neg n10, if_neg n10, m_5, if_pos (m_ix (by omega) (by decide)), nI_clamp (by omega), X2_oddsOf_eq ha hb, (h.1 _ (by omega)).1]
    · rw [hd, if_pos rfl, if_pos rfl]
  · rw [hc, if_pos rfl, if_pos rfl]
theorem m_count (N : Nat) (x : Int32) {S : aSt} (hT : rT S) (hE : rE S) (hO : rO S) (hB : rB S) : ∃ r, X10_count_0 N x S = some r ∧ X11_count_42 N x S = some r := by
  obtain ⟨t, -, t1, t2, -⟩ := hT
  obtain ⟨e, -, e1, e2, -⟩ := hE
  obtain ⟨-, -, o1, o2, o3⟩ := hO
  obtain ⟨b, -, b1, b2, -⟩ := hB
  unfold X10_count_0 X11_count_42
  rw [e1, e2, t1, t2, b1, b2, o1.1, o2.1, o3.1]
  by_cases c : x.toInt < 0 ∨ 5 < x.toInt
  · rw [if_pos c]; exact ⟨_, rfl, rfl⟩
  · rw [if_neg c]
    by_cases c0 : x = 0
    · rw [if_pos c0]; exact ⟨_, rfl, rfl⟩
    rw [if_neg c0]
    by_cases c1 : x = 1
    · rw [if_pos c1]; exact ⟨_, rfl, rfl⟩
    rw [if_neg c1]
    by_cases c2 : x = 2
    · rw [if_pos c2]; exact ⟨_, rfl, rfl⟩
    rw [if_neg c2]
    by_cases c3 : x = 3
    · rw [if_pos c3]; exact ⟨_, rfl, rfl⟩
    rw [if_neg c3]
    by_cases c4 : x = 4
    · rw [if_pos c4]; exact ⟨_, rfl, rfl⟩
    rw [if_neg c4]
    by_cases c5 : x = 5
    · rw [if_pos c5]; exact ⟨_, rfl, rfl⟩
    exfalso
    have key : ∀ n : Nat, n ≤ 5 → x.toInt = (n : Int) → x = nI n := fun n hn h => Int32.toInt_inj.mp (by rw [h, nI_toInt (by omega)])
    have hx : x.toInt = 0 ∨ x.toInt = 1 ∨ x.toInt = 2 ∨ x.toInt = 3 ∨ x.toInt = 4 ∨ x.toInt = 5 := by omega
    rcases hx with hx | hx | hx | hx | hx | hx
    · exact c0 (key 0 (by omega) hx)
    · exact c1 (key 1 (by omega) hx)
    · exact c2 (key 2 (by omega) hx)
    · exact c3 (key 3 (by omega) hx)
    · exact c4 (key 4 (by omega) hx)
    · exact c5 (key 5 (by omega) hx)
