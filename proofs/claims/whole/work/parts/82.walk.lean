/-! match: which line -/
def hit (s o : Nat → Nat) (n m e fr l : Nat) : Bool := decide (pcN (s e) (o l) ≠ 100) && decide (l - fr + pcN (s e) (o l) + cC (prf s o) n m (n - (e + 1)) (m - (l + 1)) = cC (prf s o) n m (n - e) (m - fr))
def flk (h : Nat → Bool) : Nat → Nat → Int32
  | 0, _ => -1
  | r + 1, l => if h l = true then nI l else flk h r (l + 1)
theorem flk_ok {h : Nat → Bool} : ∀ (r l : Nat), flk h r l = -1 ∨ ∃ k, k < l + r ∧ flk h r l = nI k := by
  intro r
  induction r with
  | zero => intro l; exact Or.inl rfl
  | succ r ih =>
    intro l
    rw [flk]
    by_cases c : h l = true
    · rw [if_pos c]; exact Or.inr ⟨l, by omega, rfl⟩
    · rw [if_neg c]
      rcases ih (l + 1) with q | ⟨k, hk, q⟩
      · exact Or.inl q
      · exact Or.inr ⟨k, by omega, q⟩
theorem c_line {N n m e fr : Nat} {s o : Nat → Nat} {S : aSt} (hn : n ≤ 12) (hm : m ≤ 12) (he : e < n) (hS : S.1 38 0 = nI m) (hA : cst (S.2.2 40) (prf s o) n m 0 0) (hB : prs (S.2.2 41) (prf s o) n m 0 0) (hfr : fr ≤ m) : ∀ (r l f : Nat), l + r = m → r < f → fr ≤ l → X4_leastLine_38_l10 N S f (nI e) (nI fr) (nI (cC (prf s o) n m (n - e) (m - fr))) (nI l) = some (flk (hit s o n m e fr) r l) := by
  have l0 := (cC_le (pr := prf s o) (n := n) (m := m) (n - e) (m - fr)).1
  intro r
  induction r with
  | zero =>
    intro l f hl hf hfl
    obtain ⟨f, rfl⟩ : ∃ q, f = q + 1 := ⟨f - 1, by omega⟩
    show X4_leastLine_38_b10 N S (X4_leastLine_38_l10 N S f) _ _ _ _ = _
    unfold X4_leastLine_38_b10
    rw [hS, if_pos (by exact iLE m l (by omega))]
    rfl
  | succ r ih =>
    intro l f hl hf hfl
    obtain ⟨f, rfl⟩ : ∃ q, f = q + 1 := ⟨f - 1, by omega⟩
    show X4_leastLine_38_b10 N S (X4_leastLine_38_l10 N S f) _ _ _ _ = _
    unfold X4_leastLine_38_b10
    simp only [aLet]
    have l1 := (cC_le (pr := prf s o) (n := n) (m := m) (n - (e + 1)) (m - (l + 1))).1
    have l2 := pcN_r (s e) (o l)
    have l3 : prf s o e l = pcN (s e) (o l) := rfl
    rw [hS, if_neg (by exact iNLE m l (by omega)), i13, X6_at_41_eq (by omega), nI_1, nI_1, X4_costFrom_eq (by omega), hB e l he (by omega) (by omega), hA (e + 1) (l + 1) (by omega) (by omega) (by omega), pk_sub hfl, l3]
    have e1 : (1 : Int32) * nI (l - fr) + nI (pcN (s e) (o l)) + nI (cC (prf s o) n m (n - (e + 1)) (m - (l + 1))) = nI (l - fr + pcN (s e) (o l) + cC (prf s o) n m (n - (e + 1)) (m - (l + 1))) := by
      show nI 1 * nI (l - fr) + _ + _ = _
      rw [pk_mul, Nat.one_mul, nI_add, nI_add]
    rw [e1, flk]
    by_cases c : hit s o n m e fr l = true
    · rw [if_pos c, if_pos]
      unfold hit at c
      simp only [Bool.and_eq_true, decide_eq_true_eq] at c
      rw [c.2]
    · rw [if_neg c, if_neg]
      · exact ih (l + 1) f (by omega) (by omega) (by omega)
      · intro q
        rw [nI_eq (by omega) (by omega)] at q
        apply c
        unfold hit
        simp only [Bool.and_eq_true, decide_eq_true_eq]
        exact ⟨by omega, q⟩
theorem r_line {N n m e fr v2 : Nat} {s o : Nat → Nat} {S : aSt} {rec63 : Int32 → Int32 → Int32 → Int32 → aSt → Option (Int32 × aSt)} (hN : 5000 ≤ N) (hn : n ≤ 12) (hm : m ≤ 12) (he : e < n) (hs : sOk s n) (ho : sOk o m) (hM : mtR S s o n m) (hA : cst (S.2.2 58) (prf s o) n m 0 0) (hfr : fr ≤ m) : ∀ (r l f : Nat), l + r = m → r < f → fr ≤ l → X11_match_42_l75 N rec63 f (nI v2) (nI fr) (-1) (nI e) (nI l) S = X11_match_42_b128 N rec63 (nI v2) (nI fr) (flk (hit s o n m e fr) r l) (nI e) S := by
  have l0 := (cC_le (pr := prf s o) (n := n) (m := m) (n - e) (m - fr)).1
  intro r
  induction r with
  | zero =>
    intro l f hl hf hfl
    obtain ⟨f, rfl⟩ : ∃ q, f = q + 1 := ⟨f - 1, by omega⟩
    show X11_match_42_b75 N rec63 (X11_match_42_l75 N rec63 f) _ _ _ _ _ _ = _
    unfold X11_match_42_b75
    rw [hM.1, if_pos (by exact iLE m l (by omega))]
    rfl
  | succ r ih =>
    intro l f hl hf hfl
    obtain ⟨f, rfl⟩ : ∃ q, f = q + 1 := ⟨f - 1, by omega⟩
    show X11_match_42_b75 N rec63 (X11_match_42_l75 N rec63 f) _ _ _ _ _ _ = _
    unfold X11_match_42_b75 X11_match_42_b120
    have l1 := (cC_le (pr := prf s o) (n := n) (m := m) (n - (e + 1)) (m - (l + 1))).1
    have l2 := pcN_r (s e) (o l)
    have hv := cnd_v (F := cC (prf s o) n m (n - (e + 1))) (q := fun b => prf s o e (m - (b + 1))) (b := m - fr) (i := m - (l + 1)) (p := pcN (s e) (o l)) (d := l - fr) (by show prf s o e (m - (m - (l + 1) + 1)) = _; rw [show m - (m - (l + 1) + 1) = l by omega]; rfl) (by omega)
    rw [hM.1, if_neg (by exact iNLE m l (by omega)), if_pos rfl, r_with hN hn hm he hs ho hfl (by omega) hM (fun e' l he' hl hc => hA e' l he' hl (by omega)), hv]
    simp only [Option.bind_some]
    rw [i13', if_pos (m_ix (show 13 * e + fr < 169 by omega) (by decide)), nI_clamp (by omega), hA e fr (by omega) (by omega) (by omega), nI_1, flk]
    by_cases c : hit s o n m e fr l = true
    · rw [if_pos c]
      unfold hit at c
      simp only [Bool.and_eq_true, decide_eq_true_eq] at c
      rw [if_neg c.1, if_pos (by rw [c.2])]
      obtain ⟨f, rfl⟩ : ∃ q, f = q + 1 := ⟨f - 1, by omega⟩
      show X11_match_42_b75 N rec63 (X11_match_42_l75 N rec63 f) _ _ _ _ _ _ = _
      unfold X11_match_42_b75
      rw [hM.1]
      by_cases c2 : m ≤ l + 1
      · rw [if_pos (by exact iLE m (l + 1) c2)]
      · rw [if_neg (by exact iNLE m (l + 1) (by omega)), if_neg (nI_m1 (by omega))]
    · rw [if_neg c, if_neg]
      · exact ih (l + 1) f (by omega) (by omega) (by omega)
      · intro q
        apply c
        unfold hit
        simp only [Bool.and_eq_true, decide_eq_true_eq]
        by_cases c2 : pcN (s e) (o l) = 100
        · rw [if_pos c2, nI_eq (by omega) (by omega)] at q; omega
        · rw [if_neg c2, nI_eq (by omega) (by omega)] at q; exact ⟨c2, q⟩
theorem m_walk {N n m i : Nat} {s o : Nat → Nat} {S T : aSt} (hN : 5000 ≤ N) (hn : n ≤ 12) (hm : m ≤ 12) (hi : i < n) (hs : sOk s n) (ho : sOk o m) (hS : S.1 38 0 = nI m) (hA : cst (S.2.2 40) (prf s o) n m 0 0) (hB : prs (S.2.2 41) (prf s o) n m 0 0) (hM : mtR T s o n m) (hR : cst (T.2.2 58) (prf s o) n m 0 0) : ∀ (r e fr f1 f2 : Nat) (line : Int32), e + r = i + 1 → r < f1 → r < f2 → fr ≤ m → ∃ R, X4_lineOf_38_l8 N S f1 (nI i) (nI n) (nI fr) line (nI e) = some R ∧ X11_match_42_l63 N f2 (nI i) (nI fr) line (nI e) T = some (R, T) := by
  intro r
  induction r with
  | zero =>
    intro e fr f1 f2 line he h1 h2 hfr
    obtain ⟨f1, rfl⟩ : ∃ q, f1 = q + 1 := ⟨f1 - 1, by omega⟩
    obtain ⟨f2, rfl⟩ : ∃ q, f2 = q + 1 := ⟨f2 - 1, by omega⟩
    refine ⟨line, ?_, ?_⟩
    · show X4_lineOf_38_b8 N S (X4_lineOf_38_l8 N S f1) _ _ _ _ _ = _
      unfold X4_lineOf_38_b8
      rw [if_pos (by exact iLT i e (by omega))]
    · show X11_match_42_b63 N (X11_match_42_l63 N f2) _ _ _ _ _ = _
      unfold X11_match_42_b63
      rw [if_pos (by exact iLT i e (by omega))]
  | succ r ih =>
    intro e fr f1 f2 line he h1 h2 hfr
    obtain ⟨f1, rfl⟩ : ∃ q, f1 = q + 1 := ⟨f1 - 1, by omega⟩
    obtain ⟨f2, rfl⟩ : ∃ q, f2 = q + 1 := ⟨f2 - 1, by omega⟩
    have hen : e < n := by omega
    have cl : X4_leastLine_38 N (nI e) (nI fr) S = some (flk (hit s o n m e fr) (m - fr) fr) := by
      unfold X4_leastLine_38
      simp only [aLet]
      rw [X4_costFrom_eq (by omega), hA e fr (by omega) (by omega) (by omega)]
      exact c_line hn hm hen hS hA hB hfr (m - fr) fr N (by omega) (by omega) (Nat.le_refl _)
    have rl := r_line (v2 := i) (rec63 := X11_match_42_l63 N f2) hN hn hm hen hs ho hM hR hfr (m - fr) fr N (by omega) (by omega) (Nat.le_refl _)
    have ec : X4_lineOf_38_l8 N S (f1 + 1) (nI i) (nI n) (nI fr) line (nI e) = (if flk (hit s o n m e fr) (m - fr) fr = (-1 : Int32) then X4_lineOf_38_l8 N S f1 (nI i) (nI n) (nI fr) (flk (hit s o n m e fr) (m - fr) fr) (nI (e + 1)) else X4_lineOf_38_l8 N S f1 (nI i) (nI n) (flk (hit s o n m e fr) (m - fr) fr + (1 : Int32)) (flk (hit s o n m e fr) (m - fr) fr) (nI (e + 1))) := by
      show X4_lineOf_38_b8 N S (X4_lineOf_38_l8 N S f1) _ _ _ _ _ = _
      unfold X4_lineOf_38_b8 X4_lineOf_38_b43
      rw [if_neg (by exact iNLT i e (by omega)), if_neg (by exact iNLE n e hen), cl, nI_1]
      simp only [Option.bind_some]
    have er : X11_match_42_l63 N (f2 + 1) (nI i) (nI fr) line (nI e) T = (if flk (hit s o n m e fr) (m - fr) fr = (-1 : Int32) then X11_match_42_l63 N f2 (nI i) (nI fr) (flk (hit s o n m e fr) (m - fr) fr) (nI (e + 1)) T else X11_match_42_l63 N f2 (nI i) (flk (hit s o n m e fr) (m - fr) fr + (1 : Int32)) (flk (hit s o n m e fr) (m - fr) fr) (nI (e + 1)) T) := by
      show X11_match_42_b63 N (X11_match_42_l63 N f2) _ _ _ _ _ = _
      unfold X11_match_42_b63
      rw [if_neg (by exact iNLT i e (by omega)), rl]
      unfold X11_match_42_b128 X11_match_42_b142
      rw [nI_1]
    rw [ec, er]
    rcases flk_ok (h := hit s o n m e fr) (m - fr) fr with q | ⟨k, hk, q⟩
    · rw [q, if_pos rfl, if_pos rfl]
      exact ih (e + 1) fr f1 f2 _ (by omega) (by omega) (by omega) hfr
    · rw [q, if_neg (nI_m1 (by omega)), if_neg (nI_m1 (by omega)), nI_1]
      exact ih (e + 1) (k + 1) f1 f2 _ (by omega) (by omega) (by omega) (by omega)
theorem m_lo (y : Int32) {n : Nat} (hn : n ≤ 12) : ((y = -1 ∨ ∃ i, i < n ∧ y = nI i) ∧ X11_in y.toInt64 (-1) (nI n - 1).toInt64 = 1 ∧ ¬ y < -1 ∧ y < nI n) ∨ (X11_in y.toInt64 (-1) (nI n - 1).toInt64 = 0 ∧ (y < -1 ∨ ¬ y < nI n)) := by
  have e1 : (nI n - 1).toInt = (n : Int) - 1 := pk_sub_toInt (a := n) (b := 1) (by omega) (by omega)
  have e2 : (nI n).toInt = (n : Int) := nI_toInt (by omega)
  have e3 : ((-1 : Int32)).toInt = -1 := by decide
  by_cases h : (-1 : Int32) ≤ y ∧ y ≤ nI n - 1
  · have h1 := Int32.le_iff_toInt_le.mp h.1
    have h2 := Int32.le_iff_toInt_le.mp h.2
    rw [e3] at h1
    rw [e1] at h2
    refine Or.inl ⟨?_, m_in1 (a := -1) (b := nI n - 1) (by decide) rfl h, Int32.not_lt.mpr h.1, Int32.lt_iff_toInt_lt.mpr (by rw [e2]; omega)⟩
    by_cases c : y.toInt = -1
    · exact Or.inl (Int32.toInt_inj.mp (by rw [c, e3]))
    · right
      refine ⟨y.toInt.toNat, by omega, Int32.toInt_inj.mp ?_⟩
      rw [nI_toInt (by omega)]
      omega
  · refine Or.inr ⟨m_in0 (a := -1) (b := nI n - 1) (by decide) rfl h, ?_⟩
    by_cases c : y < -1
    · exact Or.inl c
    · right
      intro z
      apply h
      refine ⟨Int32.not_lt.mp c, Int32.le_iff_toInt_le.mpr ?_⟩
      have := Int32.lt_iff_toInt_lt.mp z
      rw [e2] at this
      rw [e1]
      omega
theorem m_match {N c : Nat} (x y : Int32) {S : aSt} (hN : 5000 ≤ N) (h : GR S c) : ∃ r S1 S2, X10_match_0 N x y S = some (r, S1) ∧ X11_match_42 N x y S1 = some (r, S2) ∧ GR S2 c := by
  have h' := h
  obtain ⟨hT, hE, hO, hD, hB, hC⟩ := h
  obtain ⟨e, he, h1, h2, h3, h4⟩ := hE
  obtain ⟨m, hm, b1, b2, b3⟩ := hB
  have same : ∀ q : Int32, X10_match_0 N x y S = some (q, S) → X11_match_42 N x y S = some (q, S) → ∃ r S1 S2, X10_match_0 N x y S = some (r, S1) ∧ X11_match_42 N x y S1 = some (r, S2) ∧ GR S2 c := fun q q1 q2 => ⟨q, S, S, q1, q2, h'⟩
  by_cases c0 : x < 0
  · refine same (-3) ?_ ?_
    · unfold X10_match_0; rw [if_pos c0]
    · unfold X11_match_42
      simp only [aLet]
      rw [m_in0 (a := 0) (b := 12) (by decide) (by decide) (fun z => Int32.not_lt.mpr z.1 c0), if_pos rfl]
  obtain ⟨n, hn31, rfl⟩ := nI_of c0
  by_cases c1 : 12 < n
  · refine same (-3) ?_ ?_
    · unfold X10_match_0; rw [if_neg c0, if_pos (by exact iLT 12 n c1)]
    · unfold X11_match_42
      simp only [aLet]
      rw [m_in0 (a := 0) (b := 12) (by decide) (by decide) (fun z => by exact absurd z.2 (iNLE n 12 c1)), if_pos rfl]
  have hin : X11_in (nI n).toInt64 0 12 = 1 := m_in1 (a := 0) (b := 12) (by decide) (by decide) ⟨nI_pos' hn31, by exact iLE n 12 (by omega)⟩
  by_cases c2 : e < n
  · refine same (-3) ?_ ?_
    · unfold X10_match_0; rw [if_neg c0, if_neg (by exact iNLT 12 n (by omega)), h1, if_pos (by exact iLT e n c2)]
    · unfold X11_match_42
      simp only [aLet]
      rw [hin, if_neg n10, h2, if_pos (by exact iLT e n c2)]
  rcases m_lo y (n := n) (by omega) with ⟨hy, y1, y2, y3⟩ | ⟨y1, y2⟩
  · have hs : sOk (fun j => nn (S.2.2 9) j) n := fun j hj => (nn_ok h4 (show j < e by omega)).2
    have ho : sOk (fun l => (S.2.2 39 l).toNatClampNeg) m := by
      intro l hl
      obtain ⟨k, k0, k9, hk⟩ := (b3 l hl).2
      show 1 ≤ (S.2.2 39 l).toNatClampNeg ∧ (S.2.2 39 l).toNatClampNeg ≤ 999999
      rw [hk, nI_clamp (by omega)]
      exact ⟨k0, k9⟩
    have ho2 : ∀ l, l < m → S.2.2 39 l = nI (S.2.2 39 l).toNatClampNeg := by
      intro l hl
      obtain ⟨k, k0, k9, hk⟩ := (b3 l hl).2
      rw [hk, nI_clamp (by omega)]
    have hMC : mtC S (fun j => nn (S.2.2 9) j) (fun l => (S.2.2 39 l).toNatClampNeg) n m := ⟨b1, fun j hj => (nn_ok h4 (show j < e by omega)).1, ho2⟩
    have hMR : mtR S (fun j => nn (S.2.2 9) j) (fun l => (S.2.2 39 l).toNatClampNeg) n m := ⟨b2, fun j hj => by rw [← h3 _ (by omega)]; exact (nn_ok h4 (show j < e by omega)).1, fun l hl => by rw [← (b3 l hl).1]; exact ho2 l hl⟩
    generalize (fun j => nn (S.2.2 9) j) = s at hs hMC hMR
    generalize (fun l => (S.2.2 39 l).toNatClampNeg) = o at ho hMC hMR
    obtain ⟨T, t1, t2, t3, t4⟩ := c_costs hN (by omega) hm hs ho hMC
    have run : ∀ r, (if y = (-1 : Int32) then some (T.2.2 40 0, T) else (X4_lineOf_38 N y (nI n) T).bind (fun w => some (w, T))) = some (r, T) → X10_match_0 N (nI n) y S = some (r, T) := by
      intro r hr
      unfold X10_match_0
      rw [if_neg c0, if_neg (by exact iNLT 12 n (by omega)), h1, if_neg (by exact iNLT e n (by omega)), if_neg y2, if_pos y3, t1]
      simp only [Option.bind_some, aLet]
      have hl : X4_leastCost_38 T = T.2.2 40 0 := by
        unfold X4_leastCost_38
        simp only [aLet]
        exact X4_costFrom_eq (e := 0) (l := 0) (by omega)
      rw [hl]
      exact hr
    have f4 := F_X4_findLeastCosts_38 _ _ _ t1
    have hMR1 : mtR T s o n m := by
      unfold mtR
      rw [f4.1 42 14 (by decide), f4.2.2 45 (by decide), f4.2.2 49 (by decide)]
      exact hMR
    obtain ⟨U, r1, r2, r3⟩ := r_costs hN (by omega) hm hs ho hMR1
    have f5 := F_X11_layRest_42 _ _ _ r1
    have hG : GR U c := (h'.fr f4 (by decide)).fr f5 (by decide)
    have h42 : T.1 42 5 = nI e := by rw [f4.1 42 5 (by decide)]; exact h2
    have runR : ∀ r, (if y = (-1 : Int32) then some (U.2.2 58 0, U) else X11_match_42_l63 N N y (0 : Int32) (-1) (0 : Int32) U) = some (r, U) → X11_match_42 N (nI n) y T = some (r, U) := by
      intro r hr
      unfold X11_match_42
      simp only [aLet]
      rw [hin, if_neg n10, h42, if_neg (by exact iNLT e n (by omega)), y1, if_neg n10, r1]
      simp only [Option.bind_some]
      have h0 : aIx (0 : Int32) 169 = true := by decide
      have hz : ((0 : Int32)).toNatClampNeg = 0 := by decide
      rw [if_pos h0, hz]
      exact hr
    rcases hy with rfl | ⟨i, hi, rfl⟩
    · have a := t3 0 0 (by omega) (by omega) (by omega)
      have b := r3 0 0 (by omega) (by omega) (by omega)
      refine ⟨_, T, U, run _ (if_pos rfl), runR _ ?_, hG⟩
      rw [if_pos rfl, show U.2.2 58 0 = T.2.2 40 0 from b.trans a.symm]
    · obtain ⟨R, w1, w2⟩ := m_walk hN (by omega) hm hi hs ho t2.1 t3 t4 r2 r3 (i + 1) 0 0 N N (-1) (by omega) (by omega) (by omega) (by omega)
      refine ⟨R, T, U, run R ?_, runR R ?_, hG⟩
      · rw [if_neg (nI_m1 (by omega))]
        unfold X4_lineOf_38
        have w3 : X4_lineOf_38_l8 N T N (nI i) (nI n) (0 : Int32) (-1) (0 : Int32) = some R := w1
        rw [w3]
        rfl
      · rw [if_neg (nI_m1 (by omega))]
        exact w2
  · refine same (-3) ?_ ?_
    · unfold X10_match_0
      rw [if_neg c0, if_neg (by exact iNLT 12 n (by omega)), h1, if_neg (by exact iNLT e n (by omega))]
      by_cases q : y < -1
      · rw [if_pos q]
      · rw [if_neg q, if_neg (y2.resolve_left q)]
    · unfold X11_match_42
      simp only [aLet]
      rw [hin, if_neg n10, h2, if_neg (by exact iNLT e n (by omega)), y1, if_pos rfl]
