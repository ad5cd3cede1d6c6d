/-! singles: the reference's -/
def onR (S : aSt) (I : List Nat) : Prop := S.1 42 25 = nI I.length ∧ ∀ i, i < I.length → S.2.2 55 i = nI (I.getD i 0)
theorem slR.fr {W : aWr} {S T : aSt} {L : List Sl} (h : slR S L) (f : aFr W S T) (q : (42, 23) ∉ W.1 ∧ 50 ∉ W.2.2 ∧ 51 ∉ W.2.2 ∧ 52 ∉ W.2.2 ∧ 53 ∉ W.2.2 ∧ 54 ∉ W.2.2) : slR T L := by
  obtain ⟨q1, q2, q3, q4, q5, q6⟩ := q
  unfold slR
  rw [f.1 _ _ q1, f.2.2 _ q2, f.2.2 _ q3, f.2.2 _ q4, f.2.2 _ q5, f.2.2 _ q6]
  exact h
theorem onR.fr {W : aWr} {S T : aSt} {I : List Nat} (h : onR S I) (f : aFr W S T) (q : (42, 25) ∉ W.1 ∧ 55 ∉ W.2.2) : onR T I := by
  unfold onR
  rw [f.1 _ _ q.1, f.2.2 _ q.2]
  exact h
theorem r_outOf {N : Nat} {D : Dt} {S : aSt} (p : Int32) (hN : 50 ≤ N) (ok : okD D) (hD : lgR S D) : X11_outOf_42 N p S = some (outS D.2.1 p D.1) := by
  rw [X11_outOf_eq _ hD.1 ok.1 (by omega), outS_cong hD.2.1]
theorem m_off (a v c : Int32) : (a - v) + c = 0 ↔ a + c = v := by
  have e : (a - v) + c = (a + c) - v := by
    rw [Int32.sub_eq_add_neg, Int32.sub_eq_add_neg, Int32.add_assoc, Int32.add_comm (-v) c, Int32.add_assoc]
  rw [e, Int32.sub_eq_iff_eq_add]
  have : (0 : Int32) + v = v := by simp
  rw [this]
theorem r_nar {N i d : Nat} {D : Dt} {V : Nat → Int32} {S : aSt} (hN : 50 ≤ N) (ok : okD D) (hd : d < 64) (hi : i < (SL D).length) (hS : slR S (SL D)) (hD : lgR S D) (hU : duR S d V) : X11_isNarrow_42 N (nI i) S = some (b32 (nar D d V ((SL D).getD i sl0))) := by
  have hx := SL_ok ok (getD_mem (d := sl0) hi)
  obtain ⟨s1, s2, s3, s4, -, s5, -⟩ := r_slip hS (SL_len ok) hi
  generalize (SL D).getD i sl0 = x at *
  have loop : ∀ (m p f : Nat) (b : Bool), p + m = 6 → m < f → X11_isNarrow_42_l78 N S f (nI i) (pgx D x) (b32 (b && nbA D d V x p)) (nI p) = some (b32 (b && nbA D d V x 6)) := by
    intro m
    induction m with
    | zero =>
      intro p f b hp hf
      obtain ⟨f, rfl⟩ : ∃ q, f = q + 1 := ⟨f - 1, by omega⟩
      have : p = 6 := by omega
      subst this
      show X11_isNarrow_42_b78 N S (X11_isNarrow_42_l78 N S f) _ _ _ _ = _
      unfold X11_isNarrow_42_b78
      rw [if_pos (by decide), if_pos (b32_01 _)]
    | succ m ih =>
      intro p f b hp hf
      obtain ⟨f, rfl⟩ : ∃ q, f = q + 1 := ⟨f - 1, by omega⟩
      have hi := ih (p + 1) f b (by omega) (by omega)
      rw [nbA] at hi
      show X11_isNarrow_42_b78 N S (X11_isNarrow_42_l78 N S f) _ _ _ _ = _
      unfold X11_isNarrow_42_b78 X11_isNarrow_42_b120 X11_isNarrow_42_b124 X11_isNarrow_42_b129
      simp only [aLet]
      rw [if_neg (by exact iNLE 6 p (by omega))]
      cases hb : (b && nbA D d V x p) with
      | false =>
        rw [if_pos (show b32 false = 0 from rfl), if_pos (b32_01 _)]
        have : (b && nbA D d V x 6) = false := by
          cases b with
          | false => rfl
          | true => rw [Bool.true_and] at hb ⊢; exact nbA_false (by omega) hb
        rw [this]
      | true =>
        have hb2 : nbA D d V x p = true ∧ b = true := by simp only [Bool.and_eq_true] at hb; exact ⟨hb.2, hb.1⟩
        rw [hb2.1, hb2.2, Bool.true_and, Bool.true_and, Bool.true_and] at hi
        rw [hb2.2, Bool.true_and]
        rw [if_neg (show ¬ b32 true = 0 by decide), r_hasDue hU hd (by omega), nI_1]
        cases ht : d.testBit p with
        | false =>
          rw [if_neg (by decide : ¬ false = true), if_pos rfl]
          have hnb : nb D d V x p = true := by unfold nb; rw [ht]; rfl
          rw [hnb] at hi
          exact hi
        | true =>
          rw [if_pos rfl, if_neg (by decide : ¬ (1 : Int32) = 0)]
          have ho : X11_offOf_42 N (nI p) S = some (outS D.2.1 (nI p) D.1 - V p) := by
            unfold X11_offOf_42
            rw [r_outOf _ hN ok hD]
            simp only [Option.bind_some]
            rw [if_pos (m_ix (by omega) (by decide)), nI_clamp (by omega), hU.2 p (by omega) ht]
          rw [ho]
          simp only [Option.bind_some]
          have hnb : nb D d V x p = decide (outS D.2.1 (nI p) D.1 + (if nI p = pgx D x then x.2.2.2.1 else 0) = V p) := by unfold nb; rw [ht]; rfl
          have fin : ∀ c : Int32, (if nI p = pgx D x then x.2.2.2.1 else 0) = c → (if outS D.2.1 (nI p) D.1 - V p + c = 0 then X11_isNarrow_42_l78 N S f (nI i) (pgx D x) 1 (nI (p + 1)) else X11_isNarrow_42_l78 N S f (nI i) (pgx D x) 0 (nI (p + 1))) = some (b32 (nbA D d V x 6)) := by
            intro c hcc
            rw [hcc] at hnb
            rw [hnb] at hi
            by_cases c1 : outS D.2.1 (nI p) D.1 + c = V p
            · rw [if_pos ((m_off _ _ _).mpr c1)]
              rw [decide_eq_true c1] at hi
              exact hi
            · rw [if_neg (fun z => c1 ((m_off _ _ _).mp z))]
              rw [decide_eq_false c1] at hi
              exact hi
          by_cases cp : nI p = pgx D x
          · rw [if_pos cp, if_pos s1, s2, s5]; exact fin _ (if_pos cp)
          · rw [if_neg cp]; exact fin _ (if_neg cp)
  have b49 : ∀ v : Int32, v = pgx D x → X11_isNarrow_42_b49 N S (nI i) v = some (b32 (nar D d V x)) := by
    intro v hv
    subst hv
    unfold X11_isNarrow_42_b49 X11_isNarrow_42_b69 X11_isNarrow_42_b74
    rw [if_pos s1, s2, s3]
    have e : nar D d V x = ((decide (x.1 ≠ 5) || decide (d ≠ 63)) && nbA D d V x 6) := by
      unfold nar; rw [free_6 hd, Bool.and_comm]
    rw [e]
    have l1 := loop 6 0 N true rfl (by omega)
    have l0 := loop 6 0 N false rfl (by omega)
    by_cases c5 : x.1 = 5
    · rw [if_pos (show nI x.1 = 5 by rw [c5]; rfl), hU.1]
      by_cases c63 : d = 63
      · rw [if_pos (show nI d = 63 by rw [c63]; rfl)]
        simp only [c5, c63, ne_eq, not_true, decide_false, Bool.or_self] at l0 ⊢
        subst c63
        exact l0
      · rw [if_neg (by exact iNE d 63 c63)]
        simp only [c5, c63, ne_eq, not_true, decide_false, not_false_iff, decide_true, Bool.or_true]
        exact l1
    · rw [if_neg (by exact iNE x.1 5 c5 rfl rfl hx.1.1)]
      simp only [c5, ne_eq, not_false_iff, decide_true, Bool.true_or]
      exact l1
  unfold X11_isNarrow_42
  rw [if_pos s1, if_pos s1, if_pos s1, if_pos s1, s2, s3, s4]
  by_cases c5 : x.1 = 5
  · rw [if_pos (show nI x.1 = 5 by rw [c5]; rfl)]
    exact b49 _ (by unfold pgx; rw [if_pos c5])
  · rw [if_neg (by exact iNE x.1 5 c5 rfl rfl hx.1.1)]
    by_cases c6 : x.1 = 6
    · rw [if_pos (show nI x.1 = 6 by rw [c6]; rfl)]
      exact b49 _ (by unfold pgx; rw [if_neg c5, if_pos c6])
    · rw [if_neg (by exact iNE x.1 6 c6 rfl rfl hx.1.1), m_50, m_a4]
      obtain ⟨a4, b4⟩ := r_P (w := 4) hD ok (hx.2.2.2.2.1 (by have := hx.2.2.2.2.2.1; omega)) (by omega)
      rw [if_pos a4, b4]
      exact b49 _ (by unfold pgx; rw [if_neg c5, if_neg c6])
theorem SIx_nil {D : Dt} {q : Sl → Bool} (ok : okD D) (h : oAll D = 0) : ∀ n, n ≤ (SL D).length → SIx D q n = []
  | 0, _ => rfl
  | n + 1, hn => by
    rw [SIx, SIx_nil ok h n (by omega)]
    have hx := SL_ok ok (getD_mem (d := sl0) (i := n) (A := SL D) (by omega))
    unfold cond
    rw [decide_eq_false (by rw [h]; exact hx.2.2.2.1), Bool.false_and]
    rfl
theorem r_ones_l {N d : Nat} {D : Dt} {V : Nat → Int32} {q : Sl → Bool} {fl : Int32} (hN : 50 ≤ N) (ok : okD D) (hd : d < 64) (hq : (fl = 0 ∧ ∀ x, q x = true) ∨ (fl = 1 ∧ ∀ x, q x = nar D d V x)) : ∀ (m i f : Nat) (S : aSt), i + m = (SL D).length → m < f → slR S (SL D) → lgR S D → duR S d V → onR S (SIx D q i) → ∃ T, X11_layOnes_42_l17 N f fl (oAll D) (nI i) S = some T ∧ onR T (SI D q) ∧ slR T (SL D) ∧ lgR T D ∧ duR T d V := by
  have hlen := SL_len ok
  intro m
  induction m with
  | zero =>
    intro i f S hi hf hS hD hU hg
    obtain ⟨f, rfl⟩ : ∃ q, f = q + 1 := ⟨f - 1, by omega⟩
    have : i = (SL D).length := by omega
    subst this
    refine ⟨S, ?_, hg, hS, hD, hU⟩
    show X11_layOnes_42_b17 N (X11_layOnes_42_l17 N f) _ _ _ _ = _
    unfold X11_layOnes_42_b17
    rw [hS.1, if_pos (Int32.le_refl _)]
  | succ m ih =>
    intro i f S hi hf hS hD hU hg
    obtain ⟨f, rfl⟩ : ∃ q, f = q + 1 := ⟨f - 1, by omega⟩
    have hil : i < (SL D).length := by omega
    obtain ⟨s1, s2, -, -, -, sc, -⟩ := r_slip hS hlen hil
    have hx := SL_ok ok (getD_mem (d := sl0) hil)
    have h157 := SIx_157 (q := q) ok (n := i) (by omega)
    have take : cond D q i = true → ∃ T, X11_layOnes_42_b52 N (X11_layOnes_42_l17 N f) fl (oAll D) (nI i) S = some T ∧ onR T (SI D q) ∧ slR T (SL D) ∧ lgR T D ∧ duR T d V := by
      intro hcd
      obtain ⟨g1, g3⟩ := hg
      generalize hS2 : aI (aA S 55 (upd (S.2.2 55) (SIx D q i).length (nI i))) 42 25 (nI ((SIx D q i).length + 1)) = S2
      have fr : aFr ([(42, 25)], [], [55]) S S2 := by
        rw [← hS2]
        exact (aFr.rf.A 55 _ (by decide)).I 42 25 _ (by decide)
      have s6 : onR S2 (SIx D q (i + 1)) := by
        rw [SIx, if_pos hcd]
        refine ⟨?_, fun j hj => ?_⟩
        · rw [← hS2, gI, if_pos ⟨rfl, rfl⟩, List.length_append]; rfl
        · have : S2.2.2 55 j = upd (S.2.2 55) (SIx D q i).length (nI i) j := by rw [← hS2, gIa, gA, if_pos rfl]
          rw [List.length_append, List.length_cons, List.length_nil] at hj
          rw [this, gU]
          by_cases cj : j = (SIx D q i).length
          · rw [if_pos cj, cj, getD_r (Nat.le_refl _), Nat.sub_self]; rfl
          · rw [if_neg cj, getD_l (by omega)]; exact g3 j (by omega)
      obtain ⟨T, t1, t2⟩ := ih (i + 1) f S2 (by omega) (by omega) (hS.fr fr (by decide)) (hD.fr fr (by decide)) (hU.fr fr (by decide)) s6
      refine ⟨T, ?_, t2⟩
      rw [← t1]
      unfold X11_layOnes_42_b52 X11_layOnes_42_b72
      rw [g1, if_pos (m_ix (by omega) (by decide)), nI_clamp (by omega), nI_1, nI_1, ← hS2]
    have skip : cond D q i = false → ∃ T, X11_layOnes_42_b72 N (X11_layOnes_42_l17 N f) fl (oAll D) (nI i) S = some T ∧ onR T (SI D q) ∧ slR T (SL D) ∧ lgR T D ∧ duR T d V := by
      intro hcd
      unfold X11_layOnes_42_b72
      rw [nI_1]
      exact ih (i + 1) f S (by omega) (by omega) hS hD hU (by rw [SIx, if_neg (by rw [hcd]; decide)]; exact hg)
    show ∃ T, X11_layOnes_42_b17 N (X11_layOnes_42_l17 N f) _ _ _ _ = _ ∧ _
    unfold X11_layOnes_42_b17
    rw [hS.1, if_neg (by exact iNLE (SL D).length i (by omega))]
    by_cases c0 : oAll D = 0
    · rw [if_pos c0]
      exact skip (by unfold cond; rw [decide_eq_false (by rw [c0]; exact hx.2.2.2.1), Bool.false_and])
    rw [if_neg c0, if_pos s1, s2, sc]
    by_cases c1 : ((SL D).getD i sl0).2.2.2.1 = -oAll D
    · rw [if_pos c1]
      rcases hq with ⟨q1, q2⟩ | ⟨q1, q2⟩
      · rw [if_pos q1]
        exact take (by unfold cond; rw [q2, decide_eq_true c1]; rfl)
      · rw [if_neg (by rw [q1]; decide), r_nar hN ok hd hil hS hD hU]
        simp only [Option.bind_some]
        cases hn : nar D d V ((SL D).getD i sl0) with
        | true =>
          rw [if_neg (show ¬ b32 true = 0 by decide)]
          exact take (by unfold cond; rw [q2, hn, decide_eq_true c1]; rfl)
        | false =>
          rw [if_pos (show b32 false = 0 from rfl)]
          exact skip (by unfold cond; rw [q2, hn, Bool.and_false])
    · rw [if_neg c1]
      exact skip (by unfold cond; rw [decide_eq_false c1, Bool.false_and])
theorem r_ones {N d : Nat} {D : Dt} {V : Nat → Int32} {q : Sl → Bool} {fl : Int32} {S : aSt} (hN : 3000 ≤ N) (ok : okD D) (hd : d < 64) (hD : lgR S D) (hU : duR S d V) (hq : (fl = 0 ∧ ∀ x, q x = true) ∨ (fl = 1 ∧ ∀ x, q x = nar D d V x)) : ∃ T, X11_layOnes_42 N fl S = some T ∧ slR T (SL D) ∧ lgR T D ∧ duR T d V ∧ onR T (SI D q) := by
  have hlen := SL_len ok
  obtain ⟨T1, a1, a2, a3⟩ := r_laySlips hN ok hD
  have f1 := F_X11_laySlips_42 _ _ a1
  have fr : aFr ([(42, 25)], [], []) T1 (aI T1 42 25 (0 : Int32)) := aFr.rf.I 42 25 _ (by decide)
  obtain ⟨T2, b1, b2, b3, b4, b5⟩ := r_ones_l (N := N) (by omega) ok hd hq (SL D).length 0 N (aI T1 42 25 (0 : Int32)) (by omega) (by omega) (a2.fr fr (by decide)) (a3.fr fr (by decide)) ((hU.fr f1 (by decide)).fr fr (by decide)) ⟨by rw [gI, if_pos ⟨rfl, rfl⟩]; rfl, fun i hi => by simp [SIx] at hi⟩
  refine ⟨T2, ?_, b3, b4, b5, b2⟩
  unfold X11_layOnes_42
  rw [a1]
  simp only [Option.bind_some]
  rw [r_outOf _ (by omega) ok a3]
  simp only [Option.bind_some]
  exact b1
theorem r_weights {N : Nat} {D : Dt} {q : Sl → Bool} {S : aSt} (ok : okD D) (hS : slR S (SL D)) (hg : onR S (SI D q)) : ∀ (m i f : Nat), i + m = (SI D q).length → m < f → X11_oneWeights_42_l4 N S f (lN (wsum D ((SI D q).take i))) (nI i) = some (lN (wsum D (SI D q))) := by
  have hlen := SL_len ok
  have h157 : (SI D q).length ≤ 157 := SIx_157 ok (Nat.le_refl _)
  intro m
  induction m with
  | zero =>
    intro i f hi hf
    obtain ⟨f, rfl⟩ : ∃ q, f = q + 1 := ⟨f - 1, by omega⟩
    have : i = (SI D q).length := by omega
    subst this
    show X11_oneWeights_42_b4 N S (X11_oneWeights_42_l4 N S f) _ _ = _
    unfold X11_oneWeights_42_b4
    rw [hg.1, if_pos (Int32.le_refl _), List.take_length]
  | succ m ih =>
    intro i f hi hf
    obtain ⟨f, rfl⟩ : ∃ q, f = q + 1 := ⟨f - 1, by omega⟩
    have hil : i < (SI D q).length := by omega
    have hs := SIx_lt (D := D) (q := q) (n := (SL D).length) (i := (SI D q).getD i 0) (getD_mem (d := 0) hil)
    obtain ⟨s1, s2, -, -, -, -, sw⟩ := r_slip hS hlen hs.1
    have hw := (SL_ok ok (getD_mem (d := sl0) hs.1)).2.2.1
    have hi2 := ih (i + 1) f (by omega) (by omega)
    have e : (SI D q).take (i + 1) = (SI D q).take i ++ [(SI D q).getD i 0] := by
      rw [List.take_succ_eq_append_getElem hil, List.getD_eq_getElem?_getD, List.getElem?_eq_getElem hil]; rfl
    rw [e, wsum_app] at hi2
    show X11_oneWeights_42_b4 N S (X11_oneWeights_42_l4 N S f) _ _ = _
    unfold X11_oneWeights_42_b4
    rw [hg.1, if_neg (by exact iNLE (SI D q).length i (by omega)), if_pos (m_ix (by omega) (by decide)), nI_clamp (by omega), hg.2 i hil, if_pos s1, s2, sw, nI_l (by omega), lN_add, nI_1]
    exact hi2
