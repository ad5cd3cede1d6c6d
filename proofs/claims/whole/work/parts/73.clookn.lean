/-! looks: the class's (34) -/
theorem c_fill35 {N : Nat} : ∀ (m i f : Nat) (S : aSt), i + m = 30 → m < f → (∀ h, h < i → S.2.2 35 h = nI 0) → ∃ T, J7_fill_53178_35_l5 N f (0 : Int32) (nI i) (30 : Int32) S = some T ∧ (∀ h, h < 30 → T.2.2 35 h = nI 0) ∧ aFr ([], [], [35]) S T := by
  intro m
  induction m with
  | zero =>
    intro i f S hi hf h
    obtain ⟨f, rfl⟩ : ∃ q, f = q + 1 := ⟨f - 1, by omega⟩
    have : i = 30 := by omega
    subst this
    refine ⟨S, ?_, h, aFr.rf⟩
    show J7_fill_53178_35_b5 N (J7_fill_53178_35_l5 N f) _ _ _ _ = _
    unfold J7_fill_53178_35_b5
    rw [if_pos (by decide)]
  | succ m ih =>
    intro i f S hi hf h
    obtain ⟨f, rfl⟩ : ∃ q, f = q + 1 := ⟨f - 1, by omega⟩
    have fr : aFr ([], [], [35]) S (aA S 35 (upd (S.2.2 35) i (nI 0))) := aFr.rf.A 35 _ (by decide)
    obtain ⟨T, t1, t2, t3⟩ := ih (i + 1) f (aA S 35 (upd (S.2.2 35) i (nI 0))) (by omega) (by omega) (fun j hj => by
      rw [gA, if_pos rfl, gU]
      by_cases c : j = i
      · rw [if_pos c]
      · rw [if_neg c]; exact h j (by omega))
    refine ⟨T, ?_, t2, fr.tr t3⟩
    rw [← t1]
    show J7_fill_53178_35_b5 N (J7_fill_53178_35_l5 N f) _ _ _ _ = _
    unfold J7_fill_53178_35_b5
    rw [if_neg (by exact iNLE 30 i (by omega)), if_pos (m_ix (by omega) (by decide)), nI_clamp (by omega), nI_1]
    rfl
theorem c_own34 {N : Nat} {D : Dt} {q : Sl → Bool} (ok : okD D) : ∀ (m i f : Nat) (S : aSt), i + m = (SI D q).length → m < f → slC S (SL D) → sg25 S D (SI D q) → (∀ e, e < 30 → S.2.2 35 e = nI (owA D ((SI D q).take i) e)) → ∃ T, X3_build_34_l15 N f (nI i) S = X3_build_34_b87 N T ∧ (∀ e, e < 30 → T.2.2 35 e = nI (owS D q e)) ∧ aFr ([], [], [35]) S T := by
  have he := ok.1
  have h157 := SI_157 (q := q) ok
  intro m
  induction m with
  | zero =>
    intro i f S hi hf hS hG hW
    obtain ⟨f, rfl⟩ : ∃ q, f = q + 1 := ⟨f - 1, by omega⟩
    have : i = (SI D q).length := by omega
    subst this
    rw [List.take_length] at hW
    refine ⟨S, ?_, hW, aFr.rf⟩
    show X3_build_34_b15 N (X3_build_34_l15 N f) _ _ = _
    unfold X3_build_34_b15
    rw [hG.1, if_pos (Int32.le_refl _)]
  | succ m ih =>
    intro i f S hi hf hS hG hW
    obtain ⟨f, rfl⟩ : ∃ q, f = q + 1 := ⟨f - 1, by omega⟩
    have hil : i < (SI D q).length := by omega
    have hs := SI_lt (D := D) (q := q) hil
    obtain ⟨a1, a2, a3, a4⟩ := c_slA hS ok hs
    have hx := SL_ok ok (getD_mem (d := sl0) (A := SL D) hs)
    obtain ⟨w1, w2, w3, w4⟩ := wA_ok ok hs
    have e23 : X7_slip_25 (nI i) S = nI ((SI D q).getD i 0) := by
      unfold X7_slip_25 X6_at_26
      simp only [aLet]
      rw [if_neg (nI_pos (by omega)), if_neg (by exact iNLE 157 i (by omega)), nI_clamp (by omega), hG.2.2 i hil]
    have step : ∀ T1 : aSt, aFr ([], [], [35]) S T1 → (∀ e, e < 30 → T1.2.2 35 e = nI (owA D ((SI D q).take (i + 1)) e)) → ∃ T, X3_build_34_b81 N (X3_build_34_l15 N f) (nI i) T1 = X3_build_34_b87 N T ∧ (∀ e, e < 30 → T.2.2 35 e = nI (owS D q e)) ∧ aFr ([], [], [35]) S T := by
      intro T1 fr h1
      obtain ⟨T, t1, t2, t3⟩ := ih (i + 1) f T1 (by omega) (by omega) (rows_fr hS fr (by decide)) (hG.fr fr (by decide)) h1
      refine ⟨T, ?_, t2, fr.tr t3⟩
      rw [← t1]
      unfold X3_build_34_b81
      rw [nI_1]
    rw [take_n hil] at step
    show ∃ T, X3_build_34_b15 N (X3_build_34_l15 N f) _ _ = _ ∧ _
    unfold X3_build_34_b15
    simp only [aLet]
    rw [hG.1, if_neg (by exact iNLE (SI D q).length i (by omega)), e23, a1, a2, a4]
    by_cases c5 : 5 ≤ kA D ((SI D q).getD i 0)
    · rw [if_pos (by exact iLE 5 (kA D ((SI D q).getD i 0)) c5 rfl rfl w3)]
      refine step S aFr.rf (fun e he2 => ?_)
      rw [owA_app, if_neg (fun z => by omega), hW e he2]
      rfl
    · rw [if_neg (by exact iNLE 5 (kA D ((SI D q).getD i 0)) (by omega))]
      have hp : pA D ((SI D q).getD i 0) < 30 := by
        have := hx.2.2.2.2.1 (show kA D ((SI D q).getD i 0) < 5 by omega)
        have e : pA D ((SI D q).getD i 0) < D.1 := this
        omega
      have e31 : X6_at_35 (nI (pA D ((SI D q).getD i 0))) S = nI (owA D ((SI D q).take i) (pA D ((SI D q).getD i 0))) := by
        unfold X6_at_35
        rw [if_neg (nI_pos (by omega)), if_neg (by exact iNLE 30 (pA D ((SI D q).getD i 0)) hp), nI_clamp (by omega), hW _ hp]
      have e31s : ∀ v, X6_set_35 (nI (pA D ((SI D q).getD i 0))) v S = aA S 35 (upd (S.2.2 35) (pA D ((SI D q).getD i 0)) v) := fun v => by
        unfold X6_set_35
        rw [if_neg (nI_pos (by omega)), if_neg (by exact iNLE 30 (pA D ((SI D q).getD i 0)) hp), nI_clamp (by omega)]
      rw [e31, e31s, nI_add]
      refine step _ (aFr.rf.A 35 _ (by decide)) (fun e he2 => ?_)
      rw [gA, if_pos rfl, gU, owA_app]
      by_cases c : e = pA D ((SI D q).getD i 0)
      · rw [if_pos c, if_pos ⟨by omega, c.symm⟩, c]
      · rw [if_neg c, if_neg (fun z => c z.2.symm), hW e he2]
        rfl
theorem c_sooner34 {D : Dt} {q : Sl → Bool} {S : aSt} {e b : Nat} (ok : okD D) (he : e < 30) (hb : b < 30) (hW : ∀ e, e < 30 → S.2.2 35 e = nI (owS D q e)) (hE : S.2.2 36 e = nI (nd (D.sm e))) (hB : S.2.2 36 b = nI (nd (D.sm b))) : X3_isSooner_34 (nI e) (nI b) S = b32 (ahd D q e b) := by
  have at31 : ∀ x, x < 30 → X6_at_35 (nI x) S = nI (owS D q x) := fun x hx => by
    unfold X6_at_35
    rw [if_neg (nI_pos (by omega)), if_neg (by exact iNLE 30 x hx), nI_clamp (by omega), hW x hx]
  have at32 : ∀ x, x < 30 → X6_at_36 (nI x) S = S.2.2 36 x := fun x hx => by
    unfold X6_at_36
    rw [if_neg (nI_pos (by omega)), if_neg (by exact iNLE 30 x hx), nI_clamp (by omega)]
  unfold X3_isSooner_34 ahd
  simp only [aLet]
  have l1 := owS_le (q := q) ok e
  have l2 := owS_le (q := q) ok b
  have r1 := nd_range (D.sm e)
  have r2 := nd_range (D.sm b)
  have m1 : owS D q e * nd (D.sm b) ≤ 1538757 * 6 := Nat.mul_le_mul l1 r2.2
  have m2 : owS D q b * nd (D.sm e) ≤ 1538757 * 6 := Nat.mul_le_mul l2 r1.2
  rw [at31 e he, at31 b hb, at32 e he, at32 b hb, hE, hB, pk_mul, pk_mul]
  by_cases c : owS D q b * nd (D.sm e) < owS D q e * nd (D.sm b)
  · rw [if_neg (by exact iNLE (owS D q e * nd (D.sm b)) (owS D q b * nd (D.sm e)) c), decide_eq_true c]; rfl
  · rw [if_pos (by exact iLE (owS D q e * nd (D.sm b)) (owS D q b * nd (D.sm e)) (by omega)), decide_eq_false c]; rfl
theorem c_insert34 {N : Nat} {D : Dt} {q : Sl → Bool} {e sz : Nat} (ok : okD D) (he : e < 30) (hsz : sz ≤ e) : ∀ (v f : Nat) (A : Nat → Nat) (S : aSt), v ≤ sz → v < f → (∀ e, e < 30 → S.2.2 35 e = nI (owS D q e)) → (∀ k, k ≤ e → S.2.2 36 k = nI (nd (D.sm k))) → S.1 34 0 = nI sz → (∀ i, i ≤ sz → i ≠ v → S.2.2 37 i = nI (A i) ∧ A i < e) → ∃ T, X3_insert_34_l5 N f (nI e) (nI v) S = some T ∧ T.1 34 0 = nI (sz + 1) ∧ (∀ i, i ≤ sz → T.2.2 37 i = nI (insF (ahd D q e) e v A i)) ∧ aFr ([(34, 0)], [], [37]) S T := by
  have set33 : ∀ v w (T : aSt), v < 30 → X6_set_37 (nI v) w T = aA T 37 (upd (T.2.2 37) v w) := fun v w T hv => by
    unfold X6_set_37
    rw [if_neg (nI_pos (by omega)), if_neg (by exact iNLE 30 v hv), nI_clamp (by omega)]
  have fin : ∀ (v : Nat) (A : Nat → Nat) (S : aSt), v ≤ sz → S.1 34 0 = nI sz → (∀ i, i ≤ sz → i ≠ v → S.2.2 37 i = nI (A i) ∧ A i < e) → ∃ T, X3_insert_34_b51 N (nI e) (nI v) S = some T ∧ T.1 34 0 = nI (sz + 1) ∧ (∀ i, i ≤ sz → T.2.2 37 i = nI (if i = v then e else A i)) ∧ aFr ([(34, 0)], [], [37]) S T := by
    intro v A S hv hs hA
    refine ⟨aI (aA S 37 (upd (S.2.2 37) v (nI e))) 34 0 (nI (sz + 1)), ?_, ?_, fun i hi => ?_, (aFr.rf.A 37 _ (by decide)).I 34 0 _ (by decide)⟩
    · unfold X3_insert_34_b51
      simp only [aLet]
      rw [set33 v _ _ (by omega), gAi, hs, nI_1]
    · rw [gI, if_pos ⟨rfl, rfl⟩]
    · rw [gIa, gA, if_pos rfl, gU]
      by_cases c : i = v
      · rw [if_pos c, if_pos c]
      · rw [if_neg c, if_neg c]; exact (hA i hi c).1
  intro v
  induction v with
  | zero =>
    intro f A S hv hf hW hF hs hA
    obtain ⟨f, rfl⟩ : ∃ q, f = q + 1 := ⟨f - 1, by omega⟩
    obtain ⟨T, t1, t2⟩ := fin 0 A S hv hs hA
    refine ⟨T, ?_, t2⟩
    rw [← t1]
    show X3_insert_34_b5 N (X3_insert_34_l5 N f) _ _ _ = _
    unfold X3_insert_34_b5
    rw [if_pos (by decide)]
  | succ v ih =>
    intro f A S hv hf hW hF hs hA
    obtain ⟨f, rfl⟩ : ∃ q, f = q + 1 := ⟨f - 1, by omega⟩
    obtain ⟨hv1, hv2⟩ := hA v (by omega) (by omega)
    have e33 : X6_at_37 (nI v) S = nI (A v) := by
      unfold X6_at_37
      rw [if_neg (nI_pos (by omega)), if_neg (by exact iNLE 30 v (by omega)), nI_clamp (by omega), hv1]
    show ∃ T, X3_insert_34_b5 N (X3_insert_34_l5 N f) _ _ _ = _ ∧ _
    unfold X3_insert_34_b5
    simp only [aLet]
    rw [if_neg (by exact iNLE (v + 1) 0 (by omega)), nI_pred, e33, c_sooner34 ok he (by omega) hW (hF e (Nat.le_refl _)) (hF (A v) (by omega)), insF]
    cases ha : ahd D q e (A v) with
    | false =>
      rw [if_pos (show b32 false = 0 from rfl), if_neg (by decide)]
      exact fin (v + 1) A S hv hs hA
    | true =>
      rw [if_neg (show ¬ b32 true = 0 by decide), if_pos rfl, set33 _ _ _ (by omega), pk_m1]
      have fr : aFr ([(34, 0)], [], [37]) S (aA S 37 (upd (S.2.2 37) (v + 1) (nI (A v)))) := aFr.rf.A 37 _ (by decide)
      obtain ⟨T, t1, t2, t3, t4⟩ := ih f (fun i => if i = v + 1 then A v else A i) (aA S 37 (upd (S.2.2 37) (v + 1) (nI (A v)))) (by omega) (by omega) (by rw [fr.2.2 35 (by decide)]; exact hW) (by rw [fr.2.2 36 (by decide)]; exact hF) hs (fun i hi hiv => by
        rw [gA, if_pos rfl, gU]
        by_cases c : i = v + 1
        · rw [if_pos c, if_pos c]; exact ⟨rfl, hv2⟩
        · rw [if_neg c, if_neg c]; exact hA i hi c)
      exact ⟨T, t1, t2, t3, fr.tr t4⟩
theorem c_entries34 {N : Nat} {D : Dt} {q : Sl → Bool} (hN : 100 ≤ N) (ok : okD D) : ∀ (m j f : Nat) (S : aSt), j + m = D.1 → m < f → lgC S D → (∀ e, e < 30 → S.2.2 35 e = nI (owS D q e)) → (∀ k, k < j → S.2.2 36 k = nI (nd (D.sm k))) → S.1 34 0 = nI (lkF D q j).1 → (∀ i, i < (lkF D q j).1 → S.2.2 37 i = nI ((lkF D q j).2 i)) → ∃ T, X3_build_34_l89 N f (nI j) S = X3_build_34_b142 N T ∧ (∀ e, e < 30 → T.2.2 35 e = nI (owS D q e)) ∧ (∀ k, k < D.1 → T.2.2 36 k = nI (nd (D.sm k))) ∧ T.1 34 0 = nI (lkN D q) ∧ ∀ i, i < lkN D q → T.2.2 37 i = nI (lkA D q i) := by
  have he := ok.1
  intro m
  induction m with
  | zero =>
    intro j f S hj hf hD hW hF hs hA
    obtain ⟨f, rfl⟩ : ∃ q, f = q + 1 := ⟨f - 1, by omega⟩
    have : j = D.1 := by omega
    subst this
    refine ⟨S, ?_, hW, hF, hs, hA⟩
    show X3_build_34_b89 N (X3_build_34_l89 N f) _ _ = _
    unfold X3_build_34_b89
    rw [hD.1, if_pos (Int32.le_refl _)]
  | succ m ih =>
    intro j f S hj hf hD hW hF hs hA
    obtain ⟨f, rfl⟩ : ∃ q, f = q + 1 := ⟨f - 1, by omega⟩
    have hjl : j < D.1 := by omega
    have hsm := ok.sm hjl
    obtain ⟨k1, k2⟩ := lkF_ok D q j
    have t1 : X2_told_8 (nI j) (1 : Int32) S = nI (D.sm j) := by
      rw [show X2_told_8 (nI j) (1 : Int32) S = D.2.1 (5 * j + 1) from c_told (w := 1) hD ok hjl (by omega)]; exact hsm.1
    have set32 : ∀ w, X6_set_36 (nI j) w S = aA S 36 (upd (S.2.2 36) j w) := fun w => by
      unfold X6_set_36
      rw [if_neg (nI_pos (by omega)), if_neg (by exact iNLE 30 j (by omega)), nI_clamp (by omega)]
    have at31 : ∀ T : aSt, T.2.2 35 = S.2.2 35 → X6_at_35 (nI j) T = nI (owS D q j) := fun T hT => by
      unfold X6_at_35
      rw [if_neg (nI_pos (by omega)), if_neg (by exact iNLE 30 j (by omega)), nI_clamp (by omega), hT, hW j (by omega)]
    generalize hS1 : aA S 36 (upd (S.2.2 36) j (nI (nd (D.sm j)))) = S1
    have fr : aFr ([], [], [36]) S S1 := by rw [← hS1]; exact aFr.rf.A 36 _ (by decide)
    have f1 : ∀ k, k < j + 1 → S1.2.2 36 k = nI (nd (D.sm k)) := fun k hk => by
      rw [← hS1, gA, if_pos rfl, gU]
      by_cases c : k = j
      · rw [if_pos c, c]
      · rw [if_neg c]; exact hF k (by omega)
    have g31 := fr.2.2 35 (by decide)
    have g33 := fr.2.2 37 (by decide)
    have g30 := fr.1 34 0 (by decide)
    show ∃ T, X3_build_34_b89 N (X3_build_34_l89 N f) _ _ = _ ∧ _
    unfold X3_build_34_b89 X3_build_34_b136
    simp only [aLet]
    rw [hD.1, if_neg (by exact iNLE D.1 j hjl), t1, X0_many_eq (by omega) hsm.2.2]
    simp only [Option.bind_some]
    rw [set32, hS1, at31 S1 g31, nI_1]
    have lw := owS_le (q := q) ok j
    by_cases c : 0 < owS D q j
    · rw [if_neg (by exact iNLE (owS D q j) 0 c)]
      have hlk : lkF D q (j + 1) = ((lkF D q j).1 + 1, insF (ahd D q j) j (lkF D q j).1 (lkF D q j).2) := by rw [lkF, if_pos c]
      obtain ⟨T1, u1, u2, u3, u4⟩ := c_insert34 (N := N) (q := q) (e := j) (sz := (lkF D q j).1) ok (by omega) k1 (lkF D q j).1 N (lkF D q j).2 S1 (Nat.le_refl _) (by omega) (by rw [g31]; exact hW) (fun k hk => f1 k (by omega)) (by rw [g30]; exact hs) (fun i hi hiv => by
        rw [g33]; exact ⟨hA i (by omega), (k2 i (by omega)).1⟩)
      have hins : X3_insert_34 N (nI j) S1 = some T1 := by
        unfold X3_insert_34
        rw [g30, hs]
        exact u1
      rw [hins]
      simp only [Option.bind_some]
      exact ih (j + 1) f T1 (by omega) (by omega) ((hD.fr fr (by decide)).fr u4 (by decide)) (by rw [u4.2.2 35 (by decide), g31]; exact hW) (by rw [u4.2.2 36 (by decide)]; exact f1) (by rw [hlk]; exact u2) (by rw [hlk]; exact fun i hi => u3 i (by dsimp only at hi; omega))
    · rw [if_pos (by exact iLE (owS D q j) 0 (by omega))]
      have hlk : lkF D q (j + 1) = lkF D q j := by rw [lkF, if_neg c]
      exact ih (j + 1) f S1 (by omega) (by omega) (hD.fr fr (by decide)) (by rw [g31]; exact hW) f1 (by rw [hlk, g30]; exact hs) (by rw [hlk, g33]; exact hA)
def lk34 (S : aSt) (D : Dt) (q : Sl → Bool) : Prop := S.1 34 0 = nI (lkN D q) ∧ (∀ i, i < lkN D q → S.2.2 37 i = nI (lkA D q i)) ∧ S.2.1 34 1 = lN (msF D q (lkA D q) (lkN D q)).2.1 ∧ S.2.1 34 2 = lN (msF D q (lkA D q) (lkN D q)).2.2
theorem lk34.fr {W : aWr} {S T : aSt} {D : Dt} {q : Sl → Bool} (h : lk34 S D q) (f : aFr W S T) (z : (34, 0) ∉ W.1 ∧ 37 ∉ W.2.2 ∧ (34, 1) ∉ W.2.1 ∧ (34, 2) ∉ W.2.1) : lk34 T D q := by
  obtain ⟨q1, q2, q3, q4⟩ := z
  unfold lk34
  rw [f.1 _ _ q1, f.2.2 _ q2, f.2.1 _ _ q3, f.2.1 _ _ q4]
  exact h
theorem c_sum34 {N : Nat} {D : Dt} {q : Sl → Bool} (ok : okD D) : ∀ (m i f : Nat) (S : aSt), i + m = lkN D q → m < f → (∀ e, e < 30 → S.2.2 35 e = nI (owS D q e)) → (∀ k, k < D.1 → S.2.2 36 k = nI (nd (D.sm k))) → S.1 34 0 = nI (lkN D q) → (∀ i, i < lkN D q → S.2.2 37 i = nI (lkA D q i)) → S.2.1 34 1 = lN (msF D q (lkA D q) i).2.1 → S.2.1 34 2 = lN (msF D q (lkA D q) i).2.2 → ∃ T, X3_sumUp_34_l14 N f (lN (msF D q (lkA D q) i).1) (nI i) S = some T ∧ lk34 T D q := by
  have he := ok.1
  obtain ⟨k1, k2⟩ := lkF_ok D q D.1
  have hk1 : lkN D q ≤ D.1 := k1
  intro m
  induction m with
  | zero =>
    intro i f S hi hf hW hF hs hA h1 h2
    obtain ⟨f, rfl⟩ : ∃ q, f = q + 1 := ⟨f - 1, by omega⟩
    have : i = lkN D q := by omega
    subst this
    refine ⟨S, ?_, hs, hA, h1, h2⟩
    show X3_sumUp_34_b14 N (X3_sumUp_34_l14 N f) _ _ _ = _
    unfold X3_sumUp_34_b14
    rw [hs, if_pos (Int32.le_refl _)]
  | succ m ih =>
    intro i f S hi hf hW hF hs hA h1 h2
    obtain ⟨f, rfl⟩ : ∃ q, f = q + 1 := ⟨f - 1, by omega⟩
    have hil : i < lkN D q := by omega
    have hlt : lkA D q i < D.1 := (k2 i hil).1
    have e33 : X3_entryAt_34 (nI i) S = nI (lkA D q i) := by
      unfold X3_entryAt_34 X6_at_37
      simp only [aLet]
      rw [if_neg (nI_pos (by omega)), if_neg (by exact iNLE 30 i (by omega)), nI_clamp (by omega), hA i hil]
    have e31 : X6_at_35 (nI (lkA D q i)) S = nI (owS D q (lkA D q i)) := by
      unfold X6_at_35
      rw [if_neg (nI_pos (by omega)), if_neg (by exact iNLE 30 (lkA D q i) (by omega)), nI_clamp (by omega), hW _ (by omega)]
    have e32 : X6_at_36 (nI (lkA D q i)) S = nI (nd (D.sm (lkA D q i))) := by
      unfold X6_at_36
      rw [if_neg (nI_pos (by omega)), if_neg (by exact iNLE 30 (lkA D q i) (by omega)), nI_clamp (by omega), hF _ (by omega)]
    have lw := owS_le (q := q) ok (lkA D q i)
    have rn := nd_range (D.sm (lkA D q i))
    generalize hS2 : aL (aL S 34 1 (lN (msF D q (lkA D q) (i + 1)).2.1)) 34 2 (lN (msF D q (lkA D q) (i + 1)).2.2) = S2
    have fr : aFr ([], [(34, 1), (34, 2)], []) S S2 := by rw [← hS2]; exact (aFr.rf.L 34 1 _ (by decide)).L 34 2 _ (by decide)
    obtain ⟨T, t1, t2⟩ := ih (i + 1) f S2 (by omega) (by omega) (by rw [fr.2.2 35 (by decide)]; exact hW) (by rw [fr.2.2 36 (by decide)]; exact hF) (by rw [fr.1 34 0 (by decide)]; exact hs) (by rw [fr.2.2 37 (by decide)]; exact hA) (by rw [← hS2, gL, if_neg (by decide), gL, if_pos ⟨rfl, rfl⟩]) (by rw [← hS2, gL, if_pos ⟨rfl, rfl⟩])
    refine ⟨T, ?_, t2⟩
    rw [← t1]
    show X3_sumUp_34_b14 N (X3_sumUp_34_l14 N f) _ _ _ = _
    unfold X3_sumUp_34_b14
    simp only [aLet]
    rw [hs, if_neg (by exact iNLE (lkN D q) i hil), e33, e31, e32, nI_l (by omega), nI_l (by omega), lN_add, lN_mul, h1, h2, lN_add, lN_add, nI_1, ← hS2]
    rfl
theorem c_look34 {N : Nat} {D : Dt} {q : Sl → Bool} {S : aSt} (hN : 3000 ≤ N) (ok : okD D) (hS : slC S (SL D)) (hD : lgC S D) (hG : sg25 S D (SI D q)) : ∃ T, X3_build_34 N S = some T ∧ lk34 T D q := by
  have he := ok.1
  have h157 := SI_157 (q := q) ok
  have fr0 : aFr W_X3_build_34 S (aI S 34 0 (0 : Int32)) := aFr.rf.I 34 0 _ (by decide)
  obtain ⟨T1, a1, a2, a3⟩ := c_fill35 (N := N) 30 0 N (aI S 34 0 (0 : Int32)) rfl (by omega) (fun h hh => by omega)
  have fr1 : aFr W_X3_build_34 S T1 := fr0.tr (a3.mono (by decide))
  have hS1 := rows_fr hS fr1 (by decide)
  have hG1 := hG.fr fr1 (by decide)
  obtain ⟨T2, b1, b2, b3⟩ := c_own34 (N := N) ok (SI D q).length 0 N T1 (by omega) (by omega) hS1 hG1 (fun e he => by rw [a2 e he]; rfl)
  have fr2 : aFr W_X3_build_34 S T2 := fr1.tr (b3.mono (by decide))
  have z2 : T2.1 34 0 = nI 0 := by rw [b3.1 34 0 (by decide), a3.1 34 0 (by decide), gI, if_pos ⟨rfl, rfl⟩]; rfl
  obtain ⟨T3, c1, c2, c3, c4, c5⟩ := c_entries34 (N := N) (q := q) (by omega) ok D.1 0 N T2 (by omega) (by omega) (hD.fr fr2 (by decide)) b2 (fun k hk => by omega) z2 (fun i hi => absurd hi (Nat.not_lt_zero _))
  have hk1 : lkN D q ≤ D.1 := (lkF_ok D q D.1).1
  have fr3 : aFr ([], [(34, 1), (34, 2)], []) T3 (aL (aL T3 34 1 (0 : Int64)) 34 2 (0 : Int64)) := (aFr.rf.L 34 1 _ (by decide)).L 34 2 _ (by decide)
  obtain ⟨T4, d1, d2⟩ := c_sum34 (N := N) (q := q) ok (lkN D q) 0 N (aL (aL T3 34 1 (0 : Int64)) 34 2 (0 : Int64)) (by omega) (by omega) c2 c3 c4 c5 (by rw [gL, if_neg (by decide), gL, if_pos ⟨rfl, rfl⟩]; rfl) (by rw [gL, if_pos ⟨rfl, rfl⟩]; rfl)
  refine ⟨T4, ?_, d2⟩
  unfold X3_build_34 J7_fill_53178_35
  rw [show J7_fill_53178_35_l5 N N (0 : Int32) (0 : Int32) (30 : Int32) (aI S 34 0 (0 : Int32)) = some T1 from a1]
  simp only [Option.bind_some]
  rw [show (0 : Int32) = nI 0 from rfl, b1]
  unfold X3_build_34_b87
  rw [show (0 : Int32) = nI 0 from rfl, c1]
  unfold X3_build_34_b142 X3_sumUp_34
  rw [show X3_sumUp_34_l14 N N (0 : Int64) (0 : Int32) (aL (aL T3 34 1 (0 : Int64)) 34 2 (0 : Int64)) = some T4 from d1]
  rfl
