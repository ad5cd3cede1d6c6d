/-! looks: the reference's -/
theorem r_zero56 {N : Nat} : ∀ (m i f : Nat) (S : aSt), i + m = 30 → m < f → (∀ h, h < i → S.2.2 56 h = nI 0) → ∃ T, X11_layLooks_42_l7 N f (nI i) S = X11_layLooks_42_b26 N T ∧ (∀ h, h < 30 → T.2.2 56 h = nI 0) ∧ aFr ([], [], [56]) S T := by
  intro m
  induction m with
  | zero =>
    intro i f S hi hf h
    obtain ⟨f, rfl⟩ : ∃ q, f = q + 1 := ⟨f - 1, by omega⟩
    have : i = 30 := by omega
    subst this
    refine ⟨S, ?_, h, aFr.rf⟩
    show X11_layLooks_42_b7 N (X11_layLooks_42_l7 N f) _ _ = _
    unfold X11_layLooks_42_b7
    rw [if_pos (by decide)]
  | succ m ih =>
    intro i f S hi hf h
    obtain ⟨f, rfl⟩ : ∃ q, f = q + 1 := ⟨f - 1, by omega⟩
    have fr : aFr ([], [], [56]) S (aA S 56 (upd (S.2.2 56) i (nI 0))) := aFr.rf.A 56 _ (by decide)
    obtain ⟨T, t1, t2, t3⟩ := ih (i + 1) f (aA S 56 (upd (S.2.2 56) i (nI 0))) (by omega) (by omega) (fun j hj => by
      rw [gA, if_pos rfl, gU]
      by_cases c : j = i
      · rw [if_pos c]
      · rw [if_neg c]; exact h j (by omega))
    refine ⟨T, ?_, t2, fr.tr t3⟩
    rw [← t1]
    show X11_layLooks_42_b7 N (X11_layLooks_42_l7 N f) _ _ = _
    unfold X11_layLooks_42_b7
    rw [if_neg (by exact iNLE 30 i (by omega)), if_pos (m_ix (by omega) (by decide)), nI_clamp (by omega), nI_1]
    rfl
theorem r_own {N : Nat} {D : Dt} {q : Sl → Bool} (ok : okD D) : ∀ (m i f : Nat) (S : aSt), i + m = (SI D q).length → m < f → slR S (SL D) → onR S (SI D q) → (∀ e, e < 30 → S.2.2 56 e = nI (owA D ((SI D q).take i) e)) → ∃ T, X11_layLooks_42_l28 N f (nI i) S = X11_layLooks_42_b79 N T ∧ (∀ e, e < 30 → T.2.2 56 e = nI (owS D q e)) ∧ aFr ([], [], [56]) S T := by
  have he := ok.1
  have h157 := SI_157 (q := q) ok
  intro m
  induction m with
  | zero =>
    intro i f S hi hf hS hG hW
    obtain ⟨f, rfl⟩ : ∃ q, f = q + 1 := ⟨f - 1, by omega⟩
    have : i = (SI D q).length := by omega
    subst this
    rw [List.take_length] at hW
    refine ⟨S, ?_, hW, aFr.rf⟩
    show X11_layLooks_42_b28 N (X11_layLooks_42_l28 N f) _ _ = _
    unfold X11_layLooks_42_b28
    rw [hG.1, if_pos (Int32.le_refl _)]
  | succ m ih =>
    intro i f S hi hf hS hG hW
    obtain ⟨f, rfl⟩ : ∃ q, f = q + 1 := ⟨f - 1, by omega⟩
    have hil : i < (SI D q).length := by omega
    have hs := SI_lt (D := D) (q := q) hil
    obtain ⟨a1, a2, a3, a4, -, a6⟩ := r_slA hS ok hs
    have hx := SL_ok ok (getD_mem (d := sl0) (A := SL D) hs)
    obtain ⟨w1, w2, w3, w4⟩ := wA_ok ok hs
    have e55 := hG.2 i hil
    have step : ∀ T1 : aSt, aFr ([], [], [56]) S T1 → (∀ e, e < 30 → T1.2.2 56 e = nI (owA D ((SI D q).take (i + 1)) e)) → ∃ T, X11_layLooks_42_b73 N (X11_layLooks_42_l28 N f) (nI i) T1 = X11_layLooks_42_b79 N T ∧ (∀ e, e < 30 → T.2.2 56 e = nI (owS D q e)) ∧ aFr ([], [], [56]) S T := by
      intro T1 fr h1
      obtain ⟨T, t1, t2, t3⟩ := ih (i + 1) f T1 (by omega) (by omega) (hS.fr fr (by decide)) (hG.fr fr (by decide)) h1
      refine ⟨T, ?_, t2, fr.tr t3⟩
      rw [← t1]
      unfold X11_layLooks_42_b73
      rw [nI_1]
    rw [take_n hil] at step
    show ∃ T, X11_layLooks_42_b28 N (X11_layLooks_42_l28 N f) _ _ = _ ∧ _
    unfold X11_layLooks_42_b28
    rw [hG.1, if_neg (by exact iNLE (SI D q).length i (by omega)), if_pos (m_ix (show i < 2048 by omega) (by decide)), nI_clamp (show i < 2 ^ 31 by omega), e55, if_pos a1, a2, a3, a4, a6]
    by_cases c5 : 5 ≤ kA D ((SI D q).getD i 0)
    · rw [if_pos (by exact iLE 5 (kA D ((SI D q).getD i 0)) c5 rfl rfl w3)]
      refine step S aFr.rf (fun e he2 => ?_)
      rw [owA_app, if_neg (fun z => by omega), hW e he2]
      rfl
    · have hp : pA D ((SI D q).getD i 0) < 30 := by
        have := hx.2.2.2.2.1 (show kA D ((SI D q).getD i 0) < 5 by omega)
        have e : pA D ((SI D q).getD i 0) < D.1 := this
        omega
      have i30 := m_ix hp (by decide)
      rw [if_neg (by exact iNLE 5 (kA D ((SI D q).getD i 0)) (by omega)), if_pos a1, if_pos i30, if_pos a1, if_pos i30, nI_clamp (by omega), hW _ hp, nI_add]
      refine step _ (aFr.rf.A 56 _ (by decide)) (fun e he2 => ?_)
      rw [gA, if_pos rfl, gU, owA_app]
      by_cases c : e = pA D ((SI D q).getD i 0)
      · rw [if_pos c, if_pos ⟨by omega, c.symm⟩, c]
      · rw [if_neg c, if_neg (fun z => c z.2.symm), hW e he2]
        rfl
theorem r_ahead {N : Nat} {D : Dt} {q : Sl → Bool} {S : aSt} {e b : Nat} (hN : 20 ≤ N) (ok : okD D) (hD : lgR S D) (he : e < D.1) (hb : b < e) (hW : ∀ e, e < 30 → S.2.2 56 e = nI (owS D q e)) : X11_isAhead_42 N (nI e) (nI b) S = some (b32 (ahd D q e b)) := by
  have h30 := ok.1
  obtain ⟨a1, b1⟩ := r_P (w := 1) hD ok (show b < D.1 by omega) (by omega)
  obtain ⟨a2, b2⟩ := r_P (w := 1) hD ok he (by omega)
  rw [(ok.sm (show b < D.1 by omega)).1] at b1
  rw [(ok.sm he).1] at b2
  have l1 := owS_le (q := q) ok e
  have l2 := owS_le (q := q) ok b
  have r1 := nd_range (D.sm e)
  have r2 := nd_range (D.sm b)
  have m1 : owS D q e * nd (D.sm b) ≤ 1538757 * 6 := Nat.mul_le_mul l1 r2.2
  have m2 : owS D q b * nd (D.sm e) ≤ 1538757 * 6 := Nat.mul_le_mul l2 r1.2
  unfold X11_isAhead_42 ahd
  rw [m_50, m_50, show nI (5 * b) + (1 : Int32) = nI (5 * b + 1) from nI_1 _, show nI (5 * e) + (1 : Int32) = nI (5 * e + 1) from nI_1 _, if_pos (m_ix (show e < 30 by omega) (by decide)), if_pos a1, b1, X11_figures_eq (by omega) (ok.sm (show b < D.1 by omega)).2.2]
  simp only [Option.bind_some]
  rw [if_pos (m_ix (show b < 30 by omega) (by decide)), if_pos a2, b2, X11_figures_eq (by omega) (ok.sm he).2.2]
  simp only [Option.bind_some]
  rw [nI_clamp (show e < 2 ^ 31 by omega), nI_clamp (show b < 2 ^ 31 by omega), hW e (by omega), hW b (by omega), nI_l (by omega), nI_l (by omega), nI_l (by omega), nI_l (by omega), lN_mul, lN_mul]
  have g1 : (0 < lg_cmp (lN (owS D q e * nd (D.sm b))) (lN (owS D q b * nd (D.sm e)))) ↔ owS D q b * nd (D.sm e) < owS D q e * nd (D.sm b) := by
    rw [lg_cmp_gt, pk_lLT (by omega) (by omega)]
  by_cases c : owS D q b * nd (D.sm e) < owS D q e * nd (D.sm b)
  · rw [if_pos (g1.mpr c), decide_eq_true c]; rfl
  · rw [if_neg (fun z => c (g1.mp z)), decide_eq_false c, if_pos (show nI b ≤ nI e from iLE b e (by omega)), ite_self]
    rfl
theorem r_insert {N : Nat} {D : Dt} {q : Sl → Bool} {e sz : Nat} {rec86 : Int32 → aSt → Option aSt} (hN : 20 ≤ N) (ok : okD D) (he : e < D.1) (hsz : sz ≤ e) : ∀ (v f : Nat) (A : Nat → Nat) (S : aSt), v ≤ sz → v < f → lgR S D → (∀ e, e < 30 → S.2.2 56 e = nI (owS D q e)) → S.1 42 32 = nI sz → (∀ i, i ≤ sz → i ≠ v → S.2.2 57 i = nI (A i) ∧ A i < e) → ∃ T, X11_layLooks_42_l108 N rec86 f (nI e) (nI v) S = rec86 (nI (e + 1)) T ∧ T.1 42 32 = nI (sz + 1) ∧ (∀ i, i ≤ sz → T.2.2 57 i = nI (insF (ahd D q e) e v A i)) ∧ aFr ([(42, 32)], [], [57]) S T := by
  have h30 := ok.1
  have fin : ∀ (v : Nat) (A : Nat → Nat) (S : aSt), v ≤ sz → S.1 42 32 = nI sz → (∀ i, i ≤ sz → i ≠ v → S.2.2 57 i = nI (A i) ∧ A i < e) → ∃ T, X11_layLooks_42_b148 N rec86 (nI e) (nI v) S = rec86 (nI (e + 1)) T ∧ T.1 42 32 = nI (sz + 1) ∧ (∀ i, i ≤ sz → T.2.2 57 i = nI (if i = v then e else A i)) ∧ aFr ([(42, 32)], [], [57]) S T := by
    intro v A S hv hs hA
    refine ⟨aI (aA S 57 (upd (S.2.2 57) v (nI e))) 42 32 (nI (sz + 1)), ?_, ?_, fun i hi => ?_, (aFr.rf.A 57 _ (by decide)).I 42 32 _ (by decide)⟩
    · unfold X11_layLooks_42_b148 X11_layLooks_42_b165
      rw [if_pos (m_ix (by omega) (by decide)), nI_clamp (by omega), hs, nI_1, nI_1]
    · rw [gI, if_pos ⟨rfl, rfl⟩]
    · rw [gIa, gA, if_pos rfl, gU]
      by_cases c : i = v
      · rw [if_pos c, if_pos c]
      · rw [if_neg c, if_neg c]; exact (hA i hi c).1
  intro v
  induction v with
  | zero =>
    intro f A S hv hf hD hW hs hA
    obtain ⟨f, rfl⟩ : ∃ q, f = q + 1 := ⟨f - 1, by omega⟩
    obtain ⟨T, t1, t2⟩ := fin 0 A S hv hs hA
    refine ⟨T, ?_, t2⟩
    rw [← t1]
    show X11_layLooks_42_b108 N rec86 (X11_layLooks_42_l108 N rec86 f) _ _ _ = _
    unfold X11_layLooks_42_b108
    rw [if_pos (by decide)]
  | succ v ih =>
    intro f A S hv hf hD hW hs hA
    obtain ⟨f, rfl⟩ : ∃ q, f = q + 1 := ⟨f - 1, by omega⟩
    obtain ⟨hv1, hv2⟩ := hA v (by omega) (by omega)
    have iv := m_ix (show v < 30 by omega) (by decide)
    have iv1 := m_ix (show v + 1 < 30 by omega) (by decide)
    show ∃ T, X11_layLooks_42_b108 N rec86 (X11_layLooks_42_l108 N rec86 f) _ _ _ = _ ∧ _
    unfold X11_layLooks_42_b108
    rw [if_neg (by exact iNLE (v + 1) 0 (by omega)), nI_pred, if_pos iv, if_pos iv, if_pos iv1, nI_clamp (show v < 2 ^ 31 by omega), nI_clamp (show v + 1 < 2 ^ 31 by omega), hv1, r_ahead hN ok hD he hv2 hW, insF]
    simp only [Option.bind_some]
    cases ha : ahd D q e (A v) with
    | false =>
      rw [if_pos (show b32 false = 0 from rfl), if_neg (by decide)]
      exact fin (v + 1) A S hv hs hA
    | true =>
      rw [if_neg (show ¬ b32 true = 0 by decide), if_pos rfl, pk_m1]
      have fr : aFr ([(42, 32)], [], [57]) S (aA S 57 (upd (S.2.2 57) (v + 1) (nI (A v)))) := aFr.rf.A 57 _ (by decide)
      obtain ⟨T, t1, t2, t3, t4⟩ := ih f (fun i => if i = v + 1 then A v else A i) (aA S 57 (upd (S.2.2 57) (v + 1) (nI (A v)))) (by omega) (by omega) (hD.fr fr (by decide)) (by rw [fr.2.2 56 (by decide)]; exact hW) hs (fun i hi hiv => by
        rw [gA, if_pos rfl, gU]
        by_cases c : i = v + 1
        · rw [if_pos c, if_pos c]; exact ⟨rfl, hv2⟩
        · rw [if_neg c, if_neg c]; exact hA i hi c)
      exact ⟨T, t1, t2, t3, fr.tr t4⟩
def lkR (S : aSt) (D : Dt) (q : Sl → Bool) : Prop := S.1 42 32 = nI (lkN D q) ∧ (∀ i, i < lkN D q → S.2.2 57 i = nI (lkA D q i)) ∧ ∀ e, e < 30 → S.2.2 56 e = nI (owS D q e)
theorem r_entriesL {N : Nat} {D : Dt} {q : Sl → Bool} (hN : 100 ≤ N) (ok : okD D) : ∀ (m j f : Nat) (S : aSt), j + m = D.1 → m < f → lgR S D → (∀ e, e < 30 → S.2.2 56 e = nI (owS D q e)) → S.1 42 32 = nI (lkF D q j).1 → (∀ i, i < (lkF D q j).1 → S.2.2 57 i = nI ((lkF D q j).2 i)) → ∃ T, X11_layLooks_42_l86 N f (nI j) S = some T ∧ lkR T D q ∧ lgR T D := by
  have he := ok.1
  intro m
  induction m with
  | zero =>
    intro j f S hj hf hD hW hs hA
    obtain ⟨f, rfl⟩ : ∃ q, f = q + 1 := ⟨f - 1, by omega⟩
    have : j = D.1 := by omega
    subst this
    refine ⟨S, ?_, ⟨hs, hA, hW⟩, hD⟩
    show X11_layLooks_42_b86 N (X11_layLooks_42_l86 N f) _ _ = _
    unfold X11_layLooks_42_b86
    rw [hD.1, if_pos (Int32.le_refl _)]
  | succ m ih =>
    intro j f S hj hf hD hW hs hA
    obtain ⟨f, rfl⟩ : ∃ q, f = q + 1 := ⟨f - 1, by omega⟩
    have hjl : j < D.1 := by omega
    obtain ⟨k1, k2⟩ := lkF_ok D q j
    have lw := owS_le (q := q) ok j
    show ∃ T, X11_layLooks_42_b86 N (X11_layLooks_42_l86 N f) _ _ = _ ∧ _
    unfold X11_layLooks_42_b86 X11_layLooks_42_b165
    rw [hD.1, if_neg (by exact iNLE D.1 j hjl), if_pos (m_ix (show j < 30 by omega) (by decide)), nI_clamp (by omega), hW j (by omega), nI_1]
    by_cases c : 0 < owS D q j
    · rw [if_neg (by exact iNLE (owS D q j) 0 c), hs]
      have hlk : lkF D q (j + 1) = ((lkF D q j).1 + 1, insF (ahd D q j) j (lkF D q j).1 (lkF D q j).2) := by rw [lkF, if_pos c]
      obtain ⟨T1, u1, u2, u3, u4⟩ := r_insert (N := N) (q := q) (e := j) (sz := (lkF D q j).1) (rec86 := X11_layLooks_42_l86 N f) (by omega) ok hjl k1 (lkF D q j).1 N (lkF D q j).2 S (Nat.le_refl _) (by omega) hD hW hs (fun i hi hiv => ⟨hA i (by omega), (k2 i (by omega)).1⟩)
      rw [u1]
      exact ih (j + 1) f T1 (by omega) (by omega) (hD.fr u4 (by decide)) (by rw [u4.2.2 56 (by decide)]; exact hW) (by rw [hlk]; exact u2) (by rw [hlk]; exact fun i hi => u3 i (by dsimp only at hi; omega))
    · rw [if_pos (by exact iLE (owS D q j) 0 (by omega))]
      have hlk : lkF D q (j + 1) = lkF D q j := by rw [lkF, if_neg c]
      exact ih (j + 1) f S (by omega) (by omega) hD hW (by rw [hlk]; exact hs) (by rw [hlk]; exact hA)
theorem r_looks {N d : Nat} {D : Dt} {V : Nat → Int32} {q : Sl → Bool} {fl : Int32} {S : aSt} (hN : 3000 ≤ N) (ok : okD D) (hd : d < 64) (hD : lgR S D) (hU : duR S d V) (hq : (fl = 0 ∧ ∀ x, q x = true) ∨ (fl = 1 ∧ ∀ x, q x = nar D d V x)) : ∃ T, X11_layLooks_42 N fl S = some T ∧ lkR T D q ∧ lgR T D := by
  have he := ok.1
  have h157 := SI_157 (q := q) ok
  obtain ⟨T0, z1, z2, z3, z4, z5⟩ := r_ones hN ok hd hD hU hq
  obtain ⟨T1, a1, a2, a3⟩ := r_zero56 (N := N) 30 0 N T0 rfl (by omega) (fun h hh => by omega)
  obtain ⟨T2, b1, b2, b3⟩ := r_own (N := N) ok (SI D q).length 0 N T1 (by omega) (by omega) (z2.fr a3 (by decide)) (z5.fr a3 (by decide)) (fun e he => by rw [a2 e he]; rfl)
  have hD2 := (z3.fr a3 (by decide)).fr b3 (by decide)
  have fr : aFr ([(42, 32)], [], []) T2 (aI T2 42 32 (0 : Int32)) := aFr.rf.I 42 32 _ (by decide)
  obtain ⟨T3, c1, c2, c3⟩ := r_entriesL (N := N) (q := q) (by omega) ok D.1 0 N (aI T2 42 32 (0 : Int32)) (by omega) (by omega) (hD2.fr fr (by decide)) b2 (by rw [gI, if_pos ⟨rfl, rfl⟩]; rfl) (fun i hi => absurd hi (Nat.not_lt_zero _))
  refine ⟨T3, ?_, c2, c3⟩
  unfold X11_layLooks_42
  rw [z1]
  simp only [Option.bind_some]
  rw [show (0 : Int32) = nI 0 from rfl, a1]
  unfold X11_layLooks_42_b26
  rw [show (0 : Int32) = nI 0 from rfl, b1]
  unfold X11_layLooks_42_b79
  exact c1
