/-! fault -/
theorem tc_0 {b : Nat → Int32} {t p : Nat} : tc b t p = 0 ↔ t ≤ p := by
  have hw := wk_le b p (en b t p)
  unfold tc
  by_cases c : p < t
  · rw [if_pos c]
    constructor
    · intro z
      exfalso
      revert z
      (repeat' split)
      · decide
      · exact iNE (10 + wk b p (en b t p)) 0 (by omega)
      · decide
      · decide
      · decide
    · intro z; omega
  · rw [if_neg c]
    exact ⟨fun _ => by omega, fun _ => rfl⟩
theorem tc_2 {b : Nat → Int32} {t p : Nat} : tc b t p = 2 ↔ p < t ∧ b p = 59 := by
  have hw := wk_le b p (en b t p)
  unfold tc
  by_cases c : p < t
  · rw [if_pos c]
    by_cases c59 : b p = 59
    · have h3 : sC (b p) = 3 := by rw [c59]; decide
      rw [if_neg (by rw [h3]; decide), if_neg (by rw [h3]; decide), if_pos c59]
      exact ⟨fun _ => ⟨c, c59⟩, fun _ => rfl⟩
    · constructor
      · intro z
        exfalso
        revert z
        (repeat' split)
        · decide
        · exact iNE (10 + wk b p (en b t p)) 2 (by omega)
        · decide
        · decide
      · intro z; exact absurd z.2 c59
  · rw [if_neg c]
    exact ⟨fun z => absurd z (by decide), fun z => absurd z.1 c⟩
theorem en_59 {b : Nat → Int32} {t p : Nat} (hp : p < t) (h : b p = 59) : en b t p = p + 1 := by
  unfold en
  rw [if_pos hp, if_neg (by rw [h]; decide)]
/-- the lines read -/
def rdL (L : Nat) (S T : aSt) : Prop := ∀ l, l < L → ∃ w, w < 8 ∧ S.2.2 6 l = nI (10 + w) ∧ T.2.2 44 (5 * l) = nI w ∧ lnD l w S T
theorem NM2.ag {n l j : Nat} {S T S' T' : aSt} {v w : Int32} (h7 : ∀ i, i < 4 * n → S'.2.2 7 i = S.2.2 7 i) (h44 : ∀ i, i < 5 * n → T'.2.2 44 i = T.2.2 44 i) (hl : l < n) (hj : j < 4) (h : NM2 l S T j v w) : NM2 l S' T' j v w := ⟨by rw [h7 _ (by omega)]; exact h.1, by rw [h44 _ (by omega)]; exact h.2⟩
theorem lnD.ag {n l w : Nat} {S T S' T' : aSt} (h7 : ∀ i, i < 4 * n → S'.2.2 7 i = S.2.2 7 i) (h44 : ∀ i, i < 5 * n → T'.2.2 44 i = T.2.2 44 i) (hl : l < n) (h : lnD l w S T) : lnD l w S' T' := by
  have g : ∀ {j : Nat} {v w : Int32}, j < 4 → NM2 l S T j v w → NM2 l S' T' j v w := fun hj q => NM2.ag h7 h44 hl hj q
  unfold lnD at h ⊢
  by_cases c1 : w ≤ 1
  · rw [if_pos c1] at h ⊢
    obtain ⟨a, c, d, p, ha, hc, hd, hp, n0, n1, n2, n3⟩ := h
    exact ⟨a, c, d, p, ha, hc, hd, hp, g (by decide) n0, g (by decide) n1, g (by decide) n2, g (by decide) n3⟩
  rw [if_neg c1] at h ⊢
  by_cases c2 : w = 2
  · rw [if_pos c2] at h ⊢
    obtain ⟨a, c, d, ha, hc, hd, n0, n1, n2⟩ := h
    exact ⟨a, c, d, ha, hc, hd, g (by decide) n0, g (by decide) n1, g (by decide) n2⟩
  rw [if_neg c2] at h ⊢
  by_cases c3 : w = 3
  · rw [if_pos c3] at h ⊢
    obtain ⟨a, c, d, ha, hc, hd, n0, n1, n2⟩ := h
    exact ⟨a, c, d, ha, hc, hd, g (by decide) n0, g (by decide) n1, g (by decide) n2⟩
  rw [if_neg c3] at h ⊢
  by_cases c6 : w ≤ 6
  · rw [if_pos c6] at h ⊢
    obtain ⟨a, ha, n0⟩ := h
    exact ⟨a, ha, g (by decide) n0⟩
  rw [if_neg c6] at h ⊢
  obtain ⟨a, ha, n0, hq⟩ := h
  refine ⟨a, ha, g (by decide) n0, ?_⟩
  rcases hq with ⟨q, hq, q1, q2, v, n2⟩ | ⟨q1, q2⟩
  · exact Or.inl ⟨q, hq, by rw [h7 _ (by omega)]; exact q1, by rw [h44 _ (by omega)]; exact q2, v, g (by decide) n2⟩
  · exact Or.inr ⟨by rw [h7 _ (by omega)]; exact q1, by rw [h44 _ (by omega)]; exact q2⟩
def rG (N f : Nat) (T : aSt) : Option (Int32 × aSt) := Option.bind (X11_readsLine_42 N T) (fun w3 => if w3.1 = (0 : Int32) then some ((w3.2.1 42 16), w3.2) else X11_fault_42_l26 N f w3.2)
theorem m_read_l {N t M : Nat} {b : Nat → Int32} (hN : 300 ≤ N) (ht : t ≤ 200) : ∀ (r n k f1 f2 : Nat) (S T : aSt), n + r = 10 → 0 < r → r < f1 → r < f2 → LK b t M n k S T → S.1 1 1 = nI n → rdL n S T → ∃ R S' T', X9_read_1_l16 N f1 (nI n) S = some (R, S') ∧ rG N f2 T = some (R, T') ∧ (R = -1 → ∃ L, L ≤ 10 ∧ S'.1 1 1 = nI L ∧ T'.1 42 3 = nI L ∧ rdL L S' T') := by
  intro r
  induction r with
  | zero => intro n k f1 f2 S T _ h0; omega
  | succ r ih =>
    intro n k f1 f2 S T hn _ h1 h2 hL h11 hR
    obtain ⟨f1, rfl⟩ : ∃ q, f1 = q + 1 := ⟨f1 - 1, by omega⟩
    obtain ⟨f2, rfl⟩ : ∃ q, f2 = q + 1 := ⟨f2 - 1, by omega⟩
    obtain ⟨k', S', T', hm⟩ := m_line (n := n) hN ht (by omega) hL
    rcases hm with ⟨c1, c2, l⟩ | ⟨c1, c2, l, s11, s6, s7, s44, w, hw, w6, w44, wD⟩
    · obtain ⟨hTS, hk, hS, hT, h3⟩ := l
      have hp := pos_le b t k'
      have tk := hTS.2.2.2 k' (by omega)
      have hM := hTS.1
      refine ⟨nI (pos b t k'), S', T', ?_, ?_, fun z => absurd z (nI_m1 (by omega))⟩
      · show X9_read_1_b16 N (X9_read_1_l16 N f1) _ _ = _
        unfold X9_read_1_b16 X9_read_1_b30
        rw [if_neg (by exact iNLE 10 n (by omega)), c1]
        simp only [Option.bind_some, aLet]
        rw [if_pos trivial, hS, X6_at_4_eq (by omega), tk.1]
      · unfold rG
        rw [c2]
        simp only [Option.bind_some]
        rw [if_pos trivial, hT.2.1]
    · have l' := l
      obtain ⟨hTS, hk, hS, hT, h3⟩ := l
      have hp := pos_le b t k'
      have tk := hTS.2.2.2 k' (by omega)
      have hM := hTS.1
      have h11' : S'.1 1 1 = nI n := s11.trans h11
      have rdL1 : rdL (n + 1) (aI S' 1 1 (nI (n + 1))) T' := by
        intro j hj
        by_cases c : j = n
        · rw [c]
          exact ⟨w, hw, w6, w44, wD⟩
        · obtain ⟨w', hw', w6', w44', wD'⟩ := hR j (by omega)
          refine ⟨w', hw', ?_, ?_, lnD.ag (n := n) ?_ s44 (by omega) wD'⟩
          · rw [gIa, s6 j (by omega)]; exact w6'
          · rw [s44 _ (by omega)]; exact w44'
          · intro i hi
            rw [gIa]; exact s7 i hi
      have ec : X9_read_1_l16 N (f1 + 1) (nI n) S = (if tc b t (pos b t k') = 0 then some (-1, aI S' 1 1 (nI (n + 1))) else if tc b t (pos b t k') = 2 then (if nI (n + 1) = 10 then some (nI (pos b t k'), aI S' 1 1 (nI (n + 1))) else X9_read_1_l16 N f1 (nI (n + 1)) (aI (aI S' 1 1 (nI (n + 1))) 1 8 (nI (k' + 1)))) else some (nI (pos b t k'), aI S' 1 1 (nI (n + 1)))) := by
        have e84 : X9_read_1_b84 N (aI S' 1 1 (nI (n + 1))) = some (nI (pos b t k'), aI S' 1 1 (nI (n + 1))) := by
          unfold X9_read_1_b84
          simp only [aLet]
          rw [gI, if_neg (by decide), hS, X6_at_4_eq (by omega), gIa, tk.1]
        show X9_read_1_b16 N (X9_read_1_l16 N f1) _ _ = _
        unfold X9_read_1_b16
        rw [if_neg (by exact iNLE 10 n (by omega)), c1]
        simp only [Option.bind_some, aLet]
        rw [if_neg n10, h11', hS, nI_1, nI_1, X6_at_3_eq (by omega), gIa, tk.2.1, e84]
      have er : rG N (f2 + 1) T = X11_fault_42_b26 N (X11_fault_42_l26 N f2) T' := by
        unfold rG
        rw [c2]
        simp only [Option.bind_some]
        rw [if_neg n10]
        rfl
      have e77 : X11_fault_42_b77 N (X11_fault_42_l26 N f2) T' = some (nI (pos b t k'), T') := by
        unfold X11_fault_42_b77 X11_fault_42_b78 X11_fault_42_b92
        rw [if_pos rfl, if_pos rfl, hT.2.1]
      rw [ec, er]
      unfold X11_fault_42_b26
      rw [hT.1, hT.2.1, hT.2.2.1, h3, e77, pk_sub (en_le (b := b) hp).1]
      by_cases ca : t ≤ pos b t k'
      · rw [if_pos (tc_0.mpr ca), if_pos (by exact iLE t (pos b t k') ca)]
        exact ⟨-1, _, T', rfl, rfl, fun _ => ⟨n + 1, by omega, by rw [gI, if_pos ⟨rfl, rfl⟩], h3, rdL1⟩⟩
      · rw [if_neg (show ¬ tc b t (pos b t k') = 0 from fun z => ca (tc_0.mp z)), if_neg (show ¬ nI t ≤ nI (pos b t k') from iNLE t (pos b t k') (by omega)), if_pos (m_ix (show pos b t k' < 200 by omega) (by decide)), nI_clamp (by omega), hT.2.2.2.2 _ (by omega)]
        by_cases cb : b (pos b t k') = 59
        · rw [if_pos (show tc b t (pos b t k') = 2 from tc_2.mpr ⟨by omega, cb⟩), en_59 (by omega) cb, if_pos (show nI (pos b t k' + 1 - pos b t k') = (1 : Int32) from by rw [Nat.add_sub_cancel_left]; rfl), if_pos cb]
          by_cases c10 : n + 1 = 10
          · rw [if_pos (show nI (n + 1) = (10 : Int32) from by rw [c10]; rfl), if_pos (show (10 : Int32) ≤ nI (n + 1) from iLE 10 (n + 1) (by omega))]
            exact ⟨_, _, T', rfl, rfl, fun z => absurd z (nI_m1 (by omega))⟩
          · rw [if_neg (show ¬ nI (n + 1) = (10 : Int32) from iNE (n + 1) 10 c10), if_neg (show ¬ (10 : Int32) ≤ nI (n + 1) from iNLE 10 (n + 1) (by omega))]
            obtain ⟨t1, t16, t17, t15, tb⟩ := hT
            have hen := en_le (b := b) hp
            obtain ⟨V, v1, v2⟩ := r_token hN ht hen.2.1 t15 t1 tb
            have fV := F_X11_token_42 _ _ v1
            have hkM : k' + 1 ≤ M := by
              rcases Nat.lt_or_ge k' M with q | q
              · omega
              · exfalso
                have ek : k' = M := by omega
                rw [ek, hTS.2.1] at ca
                omega
            have e78 : X11_fault_42_b78 N (X11_fault_42_l26 N f2) 1 T' = rG N f2 V := by
              unfold X11_fault_42_b78
              rw [if_neg n10, v1]
              rfl
            rw [e78]
            have r0 : 0 < r := by omega
            refine ih (n + 1) (k' + 1) f1 f2 _ V (by omega) r0 (by omega) (by omega) ⟨hTS, hkM, by rw [gI, if_pos ⟨rfl, rfl⟩], v2, by rw [fV.1 42 3 (by decide)]; exact h3⟩ (by rw [gI, if_neg (by decide), gI, if_pos ⟨rfl, rfl⟩]) ?_
            intro j hj
            obtain ⟨w', hw', w6', w44', wD'⟩ := rdL1 j hj
            refine ⟨w', hw', w6', by rw [fV.2.2 44 (by decide)]; exact w44', lnD.ag (n := n + 1) (fun _ _ => rfl) (fun i _ => by rw [fV.2.2 44 (by decide)]) hj wD'⟩
        · rw [if_neg (show ¬ tc b t (pos b t k') = 2 from fun z => cb (tc_2.mp z).2), if_neg cb, ite_self]
          exact ⟨_, _, T', rfl, rfl, fun z => absurd z (nI_m1 (by omega))⟩
theorem m_read {N t : Nat} {S T : aSt} (hN : 300 ≤ N) (ht : t ≤ 200) (hS : S.1 1 0 = nI t) (hT : T.1 42 1 = nI t) (hb : ∀ i, i < t → S.2.2 2 i = T.2.2 43 i) : ∃ R S' T', X9_read_1 N S = some (R, S') ∧ X11_fault_42 N T = some (R, T') ∧ (R = -1 → ∃ L, L ≤ 10 ∧ S'.1 1 1 = nI L ∧ T'.1 42 3 = nI L ∧ rdL L S' T') := by
  obtain ⟨S1, M, s1, s2⟩ := c_split hN ht hS
  obtain ⟨V, v1, v2⟩ := r_token (a := 0) (b := S.2.2 2) (T := aI (aI T 42 15 0) 42 3 0) hN ht (Nat.zero_le _) (by rw [gI, if_neg (by decide), gI, if_pos ⟨rfl, rfl⟩]; rfl) (by rw [gI, if_neg (by decide), gI, if_neg (by decide)]; exact hT) (by rw [gIa, gIa]; exact fun i hi => (hb i hi).symm)
  have fV := F_X11_token_42 _ _ v1
  have L0 : LK (S.2.2 2) t M 0 0 (aI (aI S1 1 8 0) 1 1 0) V := ⟨s2, Nat.zero_le _, by rw [gI, if_neg (by decide), gI, if_pos ⟨rfl, rfl⟩]; rfl, v2, by rw [fV.1 42 3 (by decide), gI, if_pos ⟨rfl, rfl⟩]; rfl⟩
  obtain ⟨R, S', T', r1, r2, r3⟩ := m_read_l hN ht 10 0 0 N N _ V (by omega) (by omega) (by omega) (by omega) L0 (by rw [gI, if_pos ⟨rfl, rfl⟩]; rfl) (fun l hl => by omega)
  refine ⟨R, S', T', ?_, ?_, r3⟩
  · unfold X9_read_1
    rw [s1]
    exact r1
  · unfold X11_fault_42
    rw [v1]
    exact r2
theorem m_fault {N c : Nat} {S : aSt} (hN : 3000 ≤ N) (h : GR S c) : ∃ r S1 S2, X10_fault_0 N S = some (r, S1) ∧ X11_fault_42 N S1 = some (r, S2) ∧ GR S2 c := by
  obtain ⟨t, ht, h1, h2, h3⟩ := h.1
  obtain ⟨R, Sa, Ta, a1, a2, a3⟩ := m_read (N := N) (by omega) ht h1 h2 h3
  have run : X10_fault_0 N S = some (R, Sa) := by
    unfold X10_fault_0
    rw [a1]
    rfl
  have fa := F_X10_fault_0 _ _ run
  have h2a : Sa.1 42 1 = nI t := by rw [fa.1 42 1 (by decide)]; exact h2
  have h3a : ∀ i, i < t → S.2.2 2 i = Sa.2.2 43 i := by rw [fa.2.2 43 (by decide)]; exact h3
  obtain ⟨R', Sa', Tb, b1, b2, b3⟩ := m_read (N := N) (S := S) (T := Sa) (by omega) ht h1 h2a h3a
  rw [a1] at b1
  have e := Option.some.inj b1
  have eR : R = R' := congrArg Prod.fst e
  rw [← eR] at b2
  have fb := F_X11_fault_42 _ _ b2
  exact ⟨R, Sa, Tb, run, b2, (h.fr fa (by decide)).fr fb (by decide)⟩
