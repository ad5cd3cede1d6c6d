/-! write, erase, count, other -/
theorem m_inc (x : Int32) (lo hi : Int64) (a b : Int32) (h1 : a.toInt64 = lo) (h2 : b.toInt64 = hi) : X11_in x.toInt64 lo hi = if a ≤ x ∧ x ≤ b then 1 else 0 := by
  rw [← h1, ← h2]; exact m_in x a b
theorem m_in1 {x : Int32} {lo hi : Int64} {a b : Int32} (h1 : a.toInt64 = lo) (h2 : b.toInt64 = hi) (h : a ≤ x ∧ x ≤ b) : X11_in x.toInt64 lo hi = 1 := by rw [m_inc x lo hi a b h1 h2, if_pos h]
theorem m_in0 {x : Int32} {lo hi : Int64} {a b : Int32} (h1 : a.toInt64 = lo) (h2 : b.toInt64 = hi) (h : ¬ (a ≤ x ∧ x ≤ b)) : X11_in x.toInt64 lo hi = 0 := by rw [m_inc x lo hi a b h1 h2, if_neg h]
theorem n10 : ¬ (1 : Int32) = 0 := by decide
def byteOf (b : Int64) (i : Nat) : Int32 := ((b >>> (((8 : Int32) * nI i).toInt64 &&& 63)) &&& (255 : Int64)).toInt32
theorem X6_set_2_eq {S : aSt} {t : Nat} {x : Int32} (h : t < 200) : X6_set_2 (nI t) x S = aA S 2 (upd (S.2.2 2) t x) := by
  unfold X6_set_2
  rw [if_neg (nI_pos (by omega)), if_neg (fun z => by rw [show (200 : Int32) = nI 200 from rfl, nI_leI (by omega) (by omega)] at z; omega), nI_clamp (by omega)]
theorem X10_write_l_eq {N k : Nat} {b : Int64} (hk : k ≤ 8) : ∀ (m j n t : Nat) (S : aSt), j + m = k → m < n → S.1 1 0 = nI t → t + m ≤ 200 → ∃ S', X10_write_0_l35 N n b (nI k) (nI j) S = some (nI (t + m), S') ∧ S'.1 1 0 = nI (t + m) ∧ ∀ i, S'.2.2 2 i = if t ≤ i ∧ i < t + m then byteOf b (j + (i - t)) else S.2.2 2 i := by
  intro m
  induction m with
  | zero =>
    intro j n t S hj hn hS ht
    obtain ⟨n, rfl⟩ : ∃ q, n = q + 1 := ⟨n - 1, by omega⟩
    refine ⟨S, ?_, hS, fun i => by rw [if_neg (by omega)]⟩
    show X10_write_0_b35 N (X10_write_0_l35 N n) b _ _ _ = _
    unfold X10_write_0_b35
    have : j = k := by omega
    subst this
    rw [if_pos (Int32.le_refl _), hS]
    rfl
  | succ m ih =>
    intro j n t S hj hn hS ht
    obtain ⟨n, rfl⟩ : ∃ q, n = q + 1 := ⟨n - 1, by omega⟩
    have hap : X9_append_1 (byteOf b j) S = aI (aA S 2 (upd (S.2.2 2) t (byteOf b j))) 1 0 (nI (t + 1)) := by
      unfold X9_append_1
      simp only [aLet]
      rw [hS, X6_set_2_eq (by omega), gAi, hS, nI_1]
    obtain ⟨S', h1, h2, h3⟩ := ih (j + 1) n (t + 1) (aI (aA S 2 (upd (S.2.2 2) t (byteOf b j))) 1 0 (nI (t + 1))) (by omega) (by omega) (by rw [gI]; simp) (by omega)
    refine ⟨S', ?_, by rw [h2]; congr 1; omega, fun i => ?_⟩
    · show X10_write_0_b35 N (X10_write_0_l35 N n) b _ _ _ = _
      unfold X10_write_0_b35
      simp only [aLet]
      rw [if_neg (by rw [nI_leI (by omega) (by omega)]; omega)]
      rw [show ((b >>> (((8 : Int32) * nI j).toInt64 &&& 63)) &&& (255 : Int64)).toInt32 = byteOf b j from rfl, hap, nI_1, h1]
      congr 3; omega
    · rw [h3 i, gIa, gA, if_pos rfl, gU]
      by_cases c1 : i = t
      · subst c1
        rw [if_neg (by omega), if_pos rfl, if_pos (by omega)]
        congr 1; omega
      · by_cases c2 : t + 1 ≤ i ∧ i < t + 1 + m
        · rw [if_pos c2, if_pos (by omega)]; congr 1; omega
        · rw [if_neg c2, if_neg c1, if_neg (by omega)]
theorem X11_write_l_eq {N k : Nat} {b : Int64} (hk : k ≤ 8) : ∀ (m j n t : Nat) (S : aSt), j + m = k → m < n → S.1 42 1 = nI t → t + m ≤ 200 → ∃ S', X11_write_42_l33 N n b (nI k) (nI j) S = some (nI (t + m), S') ∧ S'.1 42 1 = nI (t + m) ∧ ∀ i, S'.2.2 43 i = if t ≤ i ∧ i < t + m then byteOf b (j + (i - t)) else S.2.2 43 i := by
  intro m
  induction m with
  | zero =>
    intro j n t S hj hn hS ht
    obtain ⟨n, rfl⟩ : ∃ q, n = q + 1 := ⟨n - 1, by omega⟩
    refine ⟨S, ?_, hS, fun i => by rw [if_neg (by omega)]⟩
    show X11_write_42_b33 N (X11_write_42_l33 N n) b _ _ _ = _
    unfold X11_write_42_b33
    have : j = k := by omega
    subst this
    rw [if_pos (Int32.le_refl _), hS]
    rfl
  | succ m ih =>
    intro j n t S hj hn hS ht
    obtain ⟨n, rfl⟩ : ∃ q, n = q + 1 := ⟨n - 1, by omega⟩
    obtain ⟨S', h1, h2, h3⟩ := ih (j + 1) n (t + 1) (aI (aA S 43 (upd (S.2.2 43) t (byteOf b j))) 42 1 (nI (t + 1))) (by omega) (by omega) (by rw [gI]; simp) (by omega)
    refine ⟨S', ?_, by rw [h2]; congr 1; omega, fun i => ?_⟩
    · show X11_write_42_b33 N (X11_write_42_l33 N n) b _ _ _ = _
      unfold X11_write_42_b33
      rw [if_neg (by rw [nI_leI (by omega) (by omega)]; omega), hS, if_pos (m_ix (by omega) (by decide)), nI_clamp (by omega), nI_1, nI_1]
      rw [show ((b >>> (((8 : Int32) * nI j).toInt64 &&& 63)) &&& (255 : Int64)).toInt32 = byteOf b j from rfl, h1]
      congr 3; omega
    · rw [h3 i, gIa, gA, if_pos rfl, gU]
      by_cases c1 : i = t
      · subst c1
        rw [if_neg (by omega), if_pos rfl, if_pos (by omega)]
        congr 1; omega
      · by_cases c2 : t + 1 ≤ i ∧ i < t + 1 + m
        · rw [if_pos c2, if_pos (by omega)]; congr 1; omega
        · rw [if_neg c2, if_neg c1, if_neg (by omega)]
theorem m_write {N : Nat} (hN : 5000 ≤ N) (b : Int64) (x : Int32) {S : aSt} (h : rT S) : ∃ r S1 S2, X10_write_0 N b x S = some (r, S1) ∧ X11_write_42 N b x S1 = some (r, S2) ∧ rT S2 := by
  obtain ⟨t, ht, h1, h2, h3⟩ := h
  have hin := m_inc x 1 8 1 8 (by decide) (by decide)
  unfold X10_write_0 X11_write_42
  simp only [aLet]
  by_cases c1 : x < 1
  · refine ⟨_, S, S, by rw [if_pos c1], ?_, t, ht, h1, h2, h3⟩
    rw [m_in0 (a := 1) (b := 8) (by decide) (by decide) (fun z => Int32.not_lt.mpr z.1 c1), if_pos rfl]
  · by_cases c2 : x ≤ 8
    · have hx0 : (0 : Int32) ≤ x := Int32.le_trans (by decide) (Int32.not_lt.mp c1)
      obtain ⟨k, hk, rfl⟩ := m_nat hx0
      have hk8 : k ≤ 8 := by rw [show (8 : Int32) = nI 8 from rfl, nI_leI hk (by omega)] at c2; exact c2
      have e0 : X11_in (nI k).toInt64 1 8 = 1 := by rw [hin, if_pos ⟨Int32.not_lt.mp c1, c2⟩]
      rw [e0]
      by_cases c3 : t + k ≤ 200
      · obtain ⟨S1, a1, a2, a3⟩ := X10_write_l_eq (N := N) (b := b) hk8 k 0 N t S (by omega) (by omega) h1 c3
        have f1 := F_X10_write_0_l35 N _ _ _ _ a1
        obtain ⟨S2, b1, b2, b3⟩ := X11_write_l_eq (N := N) (b := b) hk8 k 0 N t S1 (by omega) (by omega) (by rw [f1.1 42 1 (by decide)]; exact h2) c3
        have f2 := F_X11_write_42_l33 N _ _ _ _ b1
        refine ⟨nI (t + k), S1, S2, ?_, ?_, t + k, c3, ?_, b2, fun i hi => ?_⟩
        · rw [if_neg c1, if_pos c2, h1, nI_add, if_pos (by rw [show (200 : Int32) = nI 200 from rfl, nI_leI (by omega) (by omega)]; exact c3)]
          exact a1
        · rw [if_neg (by decide : ¬ (1 : Int32) = 0), f1.1 42 1 (by decide), h2, nI_add, if_pos (by rw [show (200 : Int32) = nI 200 from rfl, nI_leI (by omega) (by omega)]; exact c3)]
          exact b1
        · rw [f2.1 1 0 (by decide)]; exact a2
        · rw [f2.2.2 2 (by decide), a3, b3, f1.2.2 43 (by decide)]
          by_cases c4 : t ≤ i ∧ i < t + k
          · rw [if_pos c4, if_pos c4]
          · rw [if_neg c4, if_neg c4, h3 i (by omega)]
      · have hn : ¬ nI t + nI k ≤ 200 := by rw [nI_add, show (200 : Int32) = nI 200 from rfl, nI_leI (by omega) (by omega)]; exact c3
        refine ⟨_, S, S, by rw [if_neg c1, if_pos c2, h1, if_neg hn], by rw [if_neg (by decide), h2, if_neg hn], t, ht, h1, h2, h3⟩
    · refine ⟨_, S, S, by rw [if_neg c1, if_neg c2], ?_, t, ht, h1, h2, h3⟩
      rw [m_in0 (a := 1) (b := 8) (by decide) (by decide) (fun z => c2 z.2), if_pos rfl]
theorem m_erase {S : aSt} (h : rT S) : (X10_erase_0 S).1 = (X11_erase_42 (X10_erase_0 S).2).1 ∧ rT (X11_erase_42 (X10_erase_0 S).2).2 := by
  obtain ⟨t, ht, h1, h2, h3⟩ := h
  unfold X10_erase_0 X11_erase_42
  refine ⟨?_, 0, by omega, ?_, ?_, fun i hi => by omega⟩
  · rw [gI]; simp [h1, h2]
  · rw [gI, gI]; simp; rfl
  · rw [gI]; simp; rfl
theorem m_other (N : Nat) (x : Int32) {S : aSt} (h : rB S) : ∃ r S2, (X10_other_0 x S).1 = r ∧ X11_other_42 N x (X10_other_0 x S).2 = some (r, S2) ∧ rB S2 := by
  obtain ⟨o, ho, h1, h2, h3⟩ := h
  have hin := m_inc x 1 999999 1 999999 (by decide) (by decide)
  unfold X11_other_42
  simp only [aLet]
  by_cases c : (1 : Int32) ≤ x ∧ x ≤ 999999
  · have e1 : X10_isSum x = 1 := by unfold X10_isSum; rw [if_neg (Int32.not_lt.mpr c.1), if_neg (Int32.not_lt.mpr c.2)]
    by_cases c2 : o < 12
    · have hlt : S.1 38 0 < 12 := by rw [h1, show (12 : Int32) = nI 12 from rfl, nI_ltI (by omega) (by omega)]; exact c2
      have e2 : X10_other_0 x S = (nI (o + 1), aI (aA S 39 (upd (S.2.2 39) o x)) 38 0 (nI (o + 1))) := by
        unfold X10_other_0
        simp only [aLet]
        rw [e1, if_neg (by decide), if_pos hlt]
        have e3 : X4_add_38 x S = aI (aA S 39 (upd (S.2.2 39) o x)) 38 0 (nI (o + 1)) := by
          unfold X4_add_38 X6_set_39
          simp only [aLet]
          rw [h1, if_neg (nI_pos (by omega)), if_neg (by rw [show (12 : Int32) = nI 12 from rfl, nI_leI (by omega) (by omega)]; omega), nI_clamp (by omega), gAi, h1, nI_1]
        rw [e3, gI]; simp
      rw [e2]
      dsimp only
      have hx : (aI (aA S 39 (upd (S.2.2 39) o x)) 38 0 (nI (o + 1))).1 42 14 = nI o := by rw [gI, if_neg (by decide), gAi, h2]
      rw [m_in1 (a := 1) (b := 999999) (by decide) (by decide) c, if_neg n10, hx, if_neg (by rw [show (12 : Int32) = nI 12 from rfl, nI_eq (by omega) (by omega)]; omega), if_pos (m_ix c2 (by decide)), nI_1, nI_clamp (by omega)]
      refine ⟨_, _, rfl, rfl, o + 1, by omega, ?_, ?_, fun i hi => ?_⟩
      · rw [gI, if_neg (by decide), gAi, gI]; simp
      · rw [gI]; simp
      · have hx0 : (0 : Int32) ≤ x := Int32.le_trans (by decide) c.1
        by_cases ci : i = o
        · simp only [gIa, gA, gU, ci, if_true, if_neg (show ¬ (39 : Nat) = 49 by decide), if_neg (show ¬ (49 : Nat) = 39 by decide), true_and]
          obtain ⟨k, hk, rfl⟩ := m_nat hx0
          refine ⟨k, ?_, ?_, rfl⟩
          · have := c.1; rw [show (1 : Int32) = nI 1 from rfl, nI_leI (by omega) hk] at this; exact this
          · have := c.2; rw [show (999999 : Int32) = nI 999999 from rfl, nI_leI hk (by omega)] at this; exact this
        · simp only [gIa, gA, gU, ci, if_true, if_false, if_neg (show ¬ (39 : Nat) = 49 by decide), if_neg (show ¬ (49 : Nat) = 39 by decide)]
          exact h3 i (by omega)
    · have e : o = 12 := by omega
      subst e
      have e2 : X10_other_0 x S = ((-5), S) := by
        unfold X10_other_0
        simp only [aLet]
        rw [e1, if_neg (by decide), if_neg (by rw [h1]; decide)]
      rw [e2]
      dsimp only
      rw [m_in1 (a := 1) (b := 999999) (by decide) (by decide) c, if_neg n10, h2, if_pos (show nI 12 = 12 from rfl)]
      exact ⟨_, _, rfl, rfl, 12, ho, h1, h2, h3⟩
  · have e1 : X10_isSum x = 0 := by
      unfold X10_isSum
      by_cases c1 : x < 1
      · rw [if_pos c1]
      · rw [if_neg c1, if_pos (Int32.not_le.mp (fun z => c ⟨Int32.not_lt.mp c1, z⟩))]
    have e2 : X10_other_0 x S = ((-3), S) := by
      unfold X10_other_0
      simp only [aLet]
      rw [e1, if_pos rfl]
    rw [e2]
    dsimp only
    rw [m_in0 (a := 1) (b := 999999) (by decide) (by decide) c, if_pos rfl]
    exact ⟨_, _, rfl, rfl, o, ho, h1, h2, h3⟩
