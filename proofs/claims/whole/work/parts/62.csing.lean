/-! singles: the class's -/
/-- the singles as the class keeps them -/
def sg22 (S : aSt) (D : Dt) (I : List Nat) : Prop := S.1 22 0 = nI I.length ∧ S.2.1 22 1 = lN (wsum D I) ∧ ∀ i, i < I.length → S.2.2 23 i = nI (I.getD i 0)
theorem sg22.fr {W : aWr} {S T : aSt} {D : Dt} {I : List Nat} (h : sg22 S D I) (f : aFr W S T) (q : (22, 0) ∉ W.1 ∧ (22, 1) ∉ W.2.1 ∧ 23 ∉ W.2.2) : sg22 T D I := by
  unfold sg22
  rw [f.1 _ _ q.1, f.2.1 _ _ q.2.1, f.2.2 _ q.2.2]
  exact h
theorem c_nar22 {N i d : Nat} {D : Dt} {V : Nat → Int32} {S : aSt} (hN : 10 ≤ N) (ok : okD D) (hi : i < (SL D).length) (hS : slC S (SL D)) (hD : lgC S D) (hU : duC S d V) (ho : ∀ p, p < 6 → S.2.2 24 p = outS D.2.1 (nI p) D.1) : X7_leavesNoPageOff_22 N (nI i) S = some (b32 (nar D d V ((SL D).getD i sl0))) := by
  have hx := SL_ok ok (getD_mem (d := sl0) hi)
  have hp := c_pageOf hS hD ok hi
  obtain ⟨-, -, -, hc, -⟩ := c_slip hS (SL_len ok) hi
  generalize (SL D).getD i sl0 = x at *
  have loop : ∀ (m p f : Nat) (h0 : Bool), p + m = 6 → m < f → nbA D d V x p = true → X7_leavesNoPageOff_22_l23 N S f (nI i) (pgx D x) (b32 (h0 || free d p)) (nI p) = some (b32 (nbA D d V x 6 && (h0 || free d 6))) := by
    intro m
    induction m with
    | zero =>
      intro p f h0 hp hf hn
      obtain ⟨f, rfl⟩ : ∃ q, f = q + 1 := ⟨f - 1, by omega⟩
      have : p = 6 := by omega
      subst this
      show X7_leavesNoPageOff_22_b23 N S (X7_leavesNoPageOff_22_l23 N S f) _ _ _ _ = _
      unfold X7_leavesNoPageOff_22_b23
      rw [if_pos (by decide), if_pos (b32_01 _), hn, Bool.true_and]
    | succ m ih =>
      intro p f h0 hp hf hn
      obtain ⟨f, rfl⟩ : ∃ q, f = q + 1 := ⟨f - 1, by omega⟩
      show X7_leavesNoPageOff_22_b23 N S (X7_leavesNoPageOff_22_l23 N S f) _ _ _ _ = _
      unfold X7_leavesNoPageOff_22_b23 X7_leavesNoPageOff_22_b74 X7_leavesNoPageOff_22_b93
      simp only [aLet]
      rw [if_neg (by exact iNLE 6 p (by omega)), c_hasDue hU (by omega), nI_1]
      have hi := ih (p + 1) f h0 (by omega) (by omega)
      rw [free, nbA, hn, Bool.true_and] at hi
      cases ht : d.testBit p with
      | false =>
        rw [if_neg (by decide : ¬ false = true), if_pos rfl]
        have hnb : nb D d V x p = true := by unfold nb; rw [ht]; rfl
        have := hi hnb
        rw [ht] at this
        simp only [Bool.not_false, Bool.or_true] at this
        exact this
      | true =>
        have e24 : X6_at_24 (nI p) S = outS D.2.1 (nI p) D.1 := by
          unfold X6_at_24
          rw [if_neg (nI_pos (by omega)), if_neg (by exact iNLE 6 p (by omega)), nI_clamp (by omega), ho p (by omega)]
        rw [if_pos rfl, if_neg (by decide : ¬ (1 : Int32) = 0), e24, hc, c_dueOf hU (by omega) ht]
        have hnb : nb D d V x p = decide (outS D.2.1 (nI p) D.1 + (if nI p = pgx D x then x.2.2.2.1 else 0) = V p) := by unfold nb; rw [ht]; rfl
        rw [ht, Bool.not_true, Bool.or_false] at hi
        have fin : ∀ c : Int32, (if nI p = pgx D x then x.2.2.2.1 else 0) = c → (if outS D.2.1 (nI p) D.1 + c = V p then X7_leavesNoPageOff_22_l23 N S f (nI i) (pgx D x) (b32 (h0 || free d p)) (nI (p + 1)) else some 0) = some (b32 (nbA D d V x 6 && (h0 || free d 6))) := by
          intro c hcc
          rw [hcc] at hnb
          by_cases c1 : outS D.2.1 (nI p) D.1 + c = V p
          · rw [if_pos c1]
            exact hi (by rw [hnb]; simp [c1])
          · rw [if_neg c1]
            have : nbA D d V x (p + 1) = false := by rw [nbA, hnb]; simp [c1]
            rw [nbA_false (show p + 1 ≤ 6 by omega) this]
            rfl
        by_cases cp : nI p = pgx D x
        · rw [if_pos cp]; exact fin _ (if_pos cp)
        · rw [if_neg cp]; exact fin _ (if_neg cp)
  unfold X7_leavesNoPageOff_22 X7_leavesNoPageOff_22_b19
  simp only [aLet]
  rw [hp]
  have hm := pgx_m1 ok hx
  unfold nar
  by_cases c5 : x.1 = 5
  · rw [if_pos (hm.mpr c5)]
    have := loop 6 0 N false rfl (by omega) rfl
    simp only [c5, ne_eq, not_true, decide_false]
    exact this
  · rw [if_neg (fun z => c5 (hm.mp z))]
    have := loop 6 0 N true rfl (by omega) rfl
    simp only [ne_eq, c5, not_false_iff, decide_true]
    exact this
theorem c_single22 {N d : Nat} {D : Dt} {V : Nat → Int32} {q : Sl → Bool} (hN : 10 ≤ N) (ok : okD D) : ∀ (m i f : Nat) (S : aSt), i + m = (SL D).length → m < f → slC S (SL D) → lgC S D → duC S d V → (∀ p, p < 6 → S.2.2 24 p = outS D.2.1 (nI p) D.1) → ((S.1 22 4 = 0 ∧ ∀ x, q x = true) ∨ (S.1 22 4 = 1 ∧ ∀ x, q x = nar D d V x)) → sg22 S D (SIx D q i) → ∃ T, X7_build_22_l52 N f (-oAll D) (nI i) S = some T ∧ sg22 T D (SI D q) := by
  have hlen := SL_len ok
  intro m
  induction m with
  | zero =>
    intro i f S hi hf hS hD hU ho hq hg
    obtain ⟨f, rfl⟩ : ∃ q, f = q + 1 := ⟨f - 1, by omega⟩
    have : i = (SL D).length := by omega
    subst this
    refine ⟨S, ?_, hg⟩
    show X7_build_22_b52 N (X7_build_22_l52 N f) _ _ _ = _
    unfold X7_build_22_b52
    rw [hS.1, if_pos (Int32.le_refl _)]
  | succ m ih =>
    intro i f S hi hf hS hD hU ho hq hg
    obtain ⟨f, rfl⟩ : ∃ q, f = q + 1 := ⟨f - 1, by omega⟩
    have hil : i < (SL D).length := by omega
    obtain ⟨-, -, -, hc, hw⟩ := c_slip hS hlen hil
    have hw2 := (SL_ok ok (getD_mem (d := sl0) hil)).2.2.1
    have h157 := SIx_157 (q := q) ok (n := i + 1) (by omega)
    have take : cond D q i = true → ∃ T, X7_build_22_b90 N (X7_build_22_l52 N f) (-oAll D) (nI i) S = some T ∧ sg22 T D (SI D q) := by
      intro hcd
      rw [SIx, if_pos hcd, List.length_append, List.length_cons, List.length_nil] at h157
      obtain ⟨g1, g2, g3⟩ := hg
      have e23 : X6_set_23 (nI (SIx D q i).length) (nI i) S = aA S 23 (upd (S.2.2 23) (SIx D q i).length (nI i)) := by
        unfold X6_set_23
        rw [if_neg (nI_pos (by omega)), if_neg (by exact iNLE 157 (SIx D q i).length (by omega)), nI_clamp (by omega)]
      generalize hS2 : aI (aL (aA S 23 (upd (S.2.2 23) (SIx D q i).length (nI i))) 22 1 (S.2.1 22 1 + (nI ((SL D).getD i sl0).2.2.2.2).toInt64)) 22 0 (S.1 22 0 + 1) = S2
      have fr : aFr W_X7_build_22 S S2 := by
        rw [← hS2]
        exact ((aFr.rf.A 23 _ (by decide)).L 22 1 _ (by decide)).I 22 0 _ (by decide)
      have s1 : slC S2 (SL D) := rows_fr hS fr (by decide)
      have s2 : lgC S2 D := hD.fr fr (by decide)
      have s3 : duC S2 d V := hU.fr fr (by decide)
      have s4 : ∀ p, p < 6 → S2.2.2 24 p = outS D.2.1 (nI p) D.1 := by rw [← hS2]; exact ho
      have s5 : (S2.1 22 4 = 0 ∧ ∀ x, q x = true) ∨ (S2.1 22 4 = 1 ∧ ∀ x, q x = nar D d V x) := by rw [fr.1 22 4 (by decide)]; exact hq
      have s6 : sg22 S2 D (SIx D q (i + 1)) := by
        rw [SIx, if_pos hcd]
        refine ⟨?_, ?_, fun j hj => ?_⟩
        · rw [← hS2, gI, if_pos ⟨rfl, rfl⟩, g1, nI_1, List.length_append]; rfl
        · have : S2.2.1 22 1 = S.2.1 22 1 + (nI ((SL D).getD i sl0).2.2.2.2).toInt64 := by rw [← hS2, gIl, gL, if_pos ⟨rfl, rfl⟩]
          rw [this, g2, nI_l (by omega), wsum_app, ← lN_add]
        · have : S2.2.2 23 j = upd (S.2.2 23) (SIx D q i).length (nI i) j := by rw [← hS2, gIa, gLa, gA, if_pos rfl]
          rw [List.length_append, List.length_cons, List.length_nil] at hj
          rw [this, gU]
          by_cases cj : j = (SIx D q i).length
          · rw [if_pos cj, cj, getD_r (Nat.le_refl _), Nat.sub_self]; rfl
          · rw [if_neg cj, getD_l (by omega)]; exact g3 j (by omega)
      obtain ⟨T, t1, t2⟩ := ih (i + 1) f S2 (by omega) (by omega) s1 s2 s3 s4 s5 s6
      refine ⟨T, ?_, t2⟩
      rw [← t1]
      unfold X7_build_22_b90 X7_build_22_b130
      simp only [aLet]
      rw [g1, e23]
      have hw' : X8_weight_14 (nI i) (aA S 23 (upd (S.2.2 23) (SIx D q i).length (nI i))) = nI ((SL D).getD i sl0).2.2.2.2 := hw
      rw [hw', nI_1, ← hS2]
      rfl
    have skip : cond D q i = false → ∃ T, X7_build_22_b130 N (X7_build_22_l52 N f) (-oAll D) (nI i) S = some T ∧ sg22 T D (SI D q) := by
      intro hcd
      unfold X7_build_22_b130
      rw [nI_1]
      exact ih (i + 1) f S (by omega) (by omega) hS hD hU ho hq (by rw [SIx, if_neg (by rw [hcd]; decide)]; exact hg)
    show ∃ T, X7_build_22_b52 N (X7_build_22_l52 N f) _ _ _ = _ ∧ _
    unfold X7_build_22_b52
    simp only [aLet]
    rw [hS.1, if_neg (by exact iNLE (SL D).length i (by omega)), hc]
    by_cases c1 : ((SL D).getD i sl0).2.2.2.1 = -oAll D
    · rw [if_pos c1]
      rcases hq with ⟨q1, q2⟩ | ⟨q1, q2⟩
      · rw [if_pos q1]
        exact take (by unfold cond; rw [q2, decide_eq_true c1]; rfl)
      · rw [if_neg (by rw [q1]; decide), c_nar22 hN ok hil hS hD hU ho]
        simp only [Option.bind_some]
        cases hn : nar D d V ((SL D).getD i sl0) with
        | true =>
          rw [if_neg (show ¬ b32 true = 0 by decide)]
          exact take (by unfold cond; rw [q2, hn, decide_eq_true c1]; rfl)
        | false =>
          rw [if_pos (show b32 false = 0 from rfl)]
          exact skip (by unfold cond; rw [q2, hn, Bool.and_false])
    · rw [if_neg c1]
      exact skip (by unfold cond; rw [decide_eq_false c1, Bool.false_and])
theorem c_outs22 {N : Nat} {D : Dt} (hN : 50 ≤ N) (ok : okD D) : ∀ (m p f : Nat) (S : aSt), p + m = 6 → m < f → lgC S D → (∀ k, k < p → S.2.2 24 k = outS D.2.1 (nI k) D.1) → ∃ T, X7_build_22_l12 N f (nI p) S = X7_build_22_b40 N T ∧ aFr ([], [], [24]) S T ∧ ∀ k, k < 6 → T.2.2 24 k = outS D.2.1 (nI k) D.1 := by
  intro m
  induction m with
  | zero =>
    intro p f S hp hf hD hk
    obtain ⟨f, rfl⟩ : ∃ q, f = q + 1 := ⟨f - 1, by omega⟩
    have : p = 6 := by omega
    subst this
    refine ⟨S, ?_, aFr.rf, hk⟩
    show X7_build_22_b12 N (X7_build_22_l12 N f) _ _ = _
    unfold X7_build_22_b12
    rw [if_pos (by decide)]
  | succ m ih =>
    intro p f S hp hf hD hk
    obtain ⟨f, rfl⟩ : ∃ q, f = q + 1 := ⟨f - 1, by omega⟩
    have fr : aFr ([], [], [24]) S (aA S 24 (upd (S.2.2 24) p (outS D.2.1 (nI p) D.1))) := aFr.rf.A 24 _ (by decide)
    obtain ⟨T, t1, t2, t3⟩ := ih (p + 1) f _ (by omega) (by omega) (hD.fr fr (by decide)) (fun k hkp => by
      rw [gA, if_pos rfl, gU]
      by_cases c : k = p
      · rw [if_pos c, c]
      · rw [if_neg c]; exact hk k (by omega))
    refine ⟨T, ?_, fr.tr t2, t3⟩
    rw [← t1]
    show X7_build_22_b12 N (X7_build_22_l12 N f) _ _ = _
    unfold X7_build_22_b12
    have e24 : ∀ v, X6_set_24 (nI p) v S = aA S 24 (upd (S.2.2 24) p v) := fun v => by
      unfold X6_set_24
      rw [if_neg (nI_pos (by omega)), if_neg (by exact iNLE 6 p (by omega)), nI_clamp (by omega)]
    rw [if_neg (by exact iNLE 6 p (by omega)), X2_outOf_eq _ hD.1 ok.1 (by omega), hD.2.1]
    simp only [Option.bind_some, aLet]
    rw [e24, nI_1]
theorem c_singles22 {N d : Nat} {D : Dt} {V : Nat → Int32} {q : Sl → Bool} {S : aSt} (hN : 3000 ≤ N) (ok : okD D) (hS : slC S (SL D)) (hD : lgC S D) (hU : duC S d V) (hq : (S.1 22 4 = 0 ∧ ∀ x, q x = true) ∨ (S.1 22 4 = 1 ∧ ∀ x, q x = nar D d V x)) : ∃ T, X7_build_22 N S = some T ∧ sg22 T D (SI D q) := by
  have hlen := SL_len ok
  have fr0 : aFr W_X7_build_22 S (aL (aI S 22 0 (0 : Int32)) 22 1 (0 : Int64)) := (aFr.rf.I 22 0 _ (by decide)).L 22 1 _ (by decide)
  obtain ⟨T1, a1, a2, a3⟩ := c_outs22 (N := N) (by omega) ok 6 0 N _ rfl (by omega) (hD.fr fr0 (by decide)) (fun k hk => by omega)
  have fr1 : aFr W_X7_build_22 S T1 := fr0.tr (a2.mono (by decide))
  have hD1 := hD.fr fr1 (by decide)
  obtain ⟨T2, b1, b2⟩ := c_single22 (N := N) (q := q) (d := d) (V := V) (by omega) ok (SL D).length 0 N T1 (by omega) (by omega) (rows_fr hS fr1 (by decide)) hD1 (hU.fr fr1 (by decide)) a3 (by rw [fr1.1 22 4 (by decide)]; exact hq) (by
    refine ⟨?_, ?_, fun i hi => by simp [SIx] at hi⟩
    · rw [a2.1 22 0 (by decide)]; rfl
    · rw [a2.2.1 22 1 (by decide), gL, if_pos ⟨rfl, rfl⟩]; rfl)
  refine ⟨T2, ?_, b2⟩
  unfold X7_build_22
  rw [show (0 : Int32) = nI 0 from rfl] at *
  rw [a1]
  unfold X7_build_22_b40
  rw [X2_outOf_eq _ hD1.1 ok.1 (by omega), hD1.2.1]
  simp only [Option.bind_some]
  exact b1
