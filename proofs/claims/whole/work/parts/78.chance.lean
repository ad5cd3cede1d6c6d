/-! chance, whose, look, mean -/
theorem m_isPart (N : Nat) (p : Int32) : X11_isPart N p = some (X10_isPart p) ∧ (X10_isPart p = 0 ∨ X10_isPart p = 1) := by
  unfold X11_isPart X10_isPart
  simp only [aLet]
  by_cases c : (0 : Int32) ≤ p ∧ p ≤ 1
  · rw [m_in1 (a := 0) (b := 1) (by decide) (by decide) c, if_pos (Or.inr rfl)]
    obtain ⟨k, hk, rfl⟩ := m_le (n := 1) (by omega) c.1 c.2
    rcases (show k = 0 ∨ k = 1 by omega) with rfl | rfl
    · exact ⟨rfl, Or.inr rfl⟩
    · exact ⟨rfl, Or.inr rfl⟩
  · rw [m_in0 (a := 0) (b := 1) (by decide) (by decide) c, if_pos (Or.inl rfl)]
    rw [if_neg (fun z => c (by subst z; decide)), if_neg (fun z => c (by subst z; decide))]
    exact ⟨rfl, Or.inl rfl⟩
theorem wsum_le {D : Dt} (ok : okD D) : ∀ {I : List Nat}, (∀ i ∈ I, i < nA D) → wsum D I ≤ I.length * 9801 ∧ I.length ≤ wsum D I
  | [], _ => by simp [wsum]
  | i :: I, h => by
    have ih := wsum_le ok (I := I) (fun j hj => h j (List.mem_cons_of_mem _ hj))
    have hw := wA_ok ok (h i List.mem_cons_self)
    have e : wsum D (i :: I) = wA D i + wsum D I := by unfold wsum; rw [List.map_cons, List.sum_cons]; rfl
    rw [e, List.length_cons, Nat.add_mul]
    omega
theorem SI_mem {D : Dt} {q : Sl → Bool} {i : Nat} (h : i ∈ SI D q) : i < nA D := (SIx_lt h).1
theorem wsum_SI {D : Dt} {q : Sl → Bool} (ok : okD D) : wsum D (SI D q) ≤ 1538757 ∧ (SI D q).length ≤ wsum D (SI D q) := by
  have h := wsum_le ok (I := SI D q) (fun i hi => SI_mem hi)
  have h2 := SI_157 (q := q) ok
  have : (SI D q).length * 9801 ≤ 157 * 9801 := Nat.mul_le_mul_right _ h2
  omega
theorem m_sz (x : Int32) (n : Nat) (hn : n < 2 ^ 30) : ((∃ k, k < n ∧ x = nI k) ∧ X11_in x.toInt64 0 (nI n - (1 : Int32)).toInt64 = 1) ∨ ((∀ k, k < n → x ≠ nI k) ∧ X11_in x.toInt64 0 (nI n - (1 : Int32)).toInt64 = 0) := by
  have hm : (nI n - 1).toInt = (n : Int) - 1 := pk_sub_toInt (a := n) (b := 1) (by omega) (by omega)
  by_cases hx : (0 : Int32) ≤ x ∧ x ≤ nI n - 1
  · rw [m_in1 (a := 0) (b := nI n - 1) (by decide) rfl hx]
    obtain ⟨j, hj, rfl⟩ := m_nat hx.1
    left
    have h2 : (nI j).toInt ≤ (nI n - 1).toInt := Int32.le_iff_toInt_le.mp hx.2
    rw [hm, nI_toInt hj] at h2
    exact ⟨⟨j, by omega, rfl⟩, rfl⟩
  · rw [m_in0 (a := 0) (b := nI n - 1) (by decide) rfl hx]
    right
    refine ⟨fun j hj e1 => hx ?_, rfl⟩
    subst e1
    refine ⟨nI_pos' (by omega), Int32.le_iff_toInt_le.mpr ?_⟩
    rw [hm, nI_toInt (by omega)]
    omega
theorem m_chance {N c : Nat} (x p : Int32) {S : aSt} (hN : 3000 ≤ N) (hc : c < 2 ^ 31) (h : GR S c) : ∃ r S1 S2, X10_chance_0 N x p S = some (r, S1) ∧ X11_chance_42 N x p S1 = some (r, S2) ∧ GR S2 c := by
  obtain ⟨T, w1, w2, der⟩ := c_workOut hN hc h
  obtain ⟨ok, lc, lr, hd, dc, dr⟩ := w2.all
  obtain ⟨e1, e2, -, e4, -, -, -⟩ := der
  have h157 := SI_157 (q := qA) ok
  obtain ⟨U, u1, u2, u3, u4, u5⟩ := r_ones (q := qA) (fl := 0) hN ok hd lr dr (Or.inl ⟨rfl, fun _ => rfl⟩)
  have fU := F_X11_layOnes_42 _ _ _ u1
  have gU := w2.fr fU (by decide)
  obtain ⟨hp1, hp2⟩ := m_isPart N p
  unfold X10_chance_0 X11_chance_42
  rw [w1]
  simp only [Option.bind_some, aLet]
  rcases m_sz x (SI (Dof T) qA).length (by omega) with ⟨⟨k, hk, rfl⟩, hin⟩ | ⟨hn, hin⟩
  · rw [if_neg (nI_pos (by omega)), e2.1, if_pos ((nI_ltI (by omega) (by omega)).mpr hk)]
    rcases hp2 with hp2 | hp2
    · refine ⟨_, T, U, by rw [hp2, if_pos rfl], ?_, gU⟩
      rw [u1]
      simp only [Option.bind_some]
      rw [u5.1, hin, if_neg n10, hp1, hp2]
      simp only [Option.bind_some]
      rw [if_pos trivial]
    · have hs := SI_lt (D := Dof T) (q := qA) hk
      obtain ⟨-, -, -, a4⟩ := c_slA e1 ok hs
      obtain ⟨s1, s2, -, -, -, s6⟩ := r_slA u2 ok hs
      have hw := wA_ok ok hs
      obtain ⟨U2, b1, b2, b3⟩ := r_pairs (w := -oAll (Dof T)) hN ok u2
      have okp := okPs_pairs ok (-oAll (Dof T))
      obtain ⟨ws1, ws2⟩ := wsum_SI (q := qA) ok
      obtain ⟨-, -, -, -, o5⟩ := w2.2.2.1
      obtain ⟨s, hs99, hse⟩ := o5.2
      have hwt := r_weights (N := N) (S := U) ok u2 u5 (SI (Dof T) qA).length 0 N (by omega) (by omega)
      have hwt2 : X11_oneWeights_42 N U = some (lN (wsum (Dof T) (SI (Dof T) qA))) := hwt
      have hmul : s * (pairsOf (Dof T) (-oAll (Dof T))).2.1 ≤ 99 * (3690241 * 96059601) := Nat.mul_le_mul hs99 okp.2.1
      have hmul2 : 100 * wA (Dof T) ((SI (Dof T) qA).getD k 0) ≤ 100 * 9801 := Nat.mul_le_mul_left _ hw.2.1
      obtain ⟨r, r1, r2⟩ := m_lowest (N := N) (a := 100 * wA (Dof T) ((SI (Dof T) qA).getD k 0)) (b := 100 * wsum (Dof T) (SI (Dof T) qA) + s * (pairsOf (Dof T) (-oAll (Dof T))).2.1) p (by omega) (by omega) (by omega) (Or.inl (by omega))
      rw [← lN_mul, ← lN_add, ← lN_mul, ← lN_mul] at r1 r2
      have g2 := gU.fr b3 (by decide)
      refine ⟨r, T, U2, ?_, ?_, g2⟩
      · rw [hp2, if_neg n10, e_slip22 e2 hk h157, a4, e2.2.1, e4.2.1, nI_l (by omega), hse, nI_l (by omega)]
        rw [show (100 : Int64) = lN 100 from rfl, r1]
        rfl
      · have e12 : U2.1 42 12 = nI s := by
          rw [b3.1 42 12 (by decide), fU.1 42 12 (by decide), ← o5.1, hse]
        rw [u1]
        simp only [Option.bind_some]
        rw [u5.1, hin, if_neg n10, hp1, hp2]
        simp only [Option.bind_some]
        rw [if_neg n10, if_pos (m_ix (by omega) (by decide)), nI_clamp (show k < 2 ^ 31 by omega), u5.2 k hk, if_pos s1, hwt2]
        simp only [Option.bind_some]
        rw [r_outOf _ (by omega) ok u3]
        simp only [Option.bind_some]
        rw [show -outS (Dof T).2.1 (-1) (Dof T).1 = -oAll (Dof T) from rfl, b1]
        simp only [Option.bind_some]
        rw [s2, s6, nI_l (by omega), e12, nI_l (by omega), b2.2.1]
        rw [show (100 : Int64) = lN 100 from rfl, r2]
        rfl
  · refine ⟨-2, T, U, ?_, ?_, gU⟩
    · by_cases c0 : x < 0
      · rw [if_pos c0]
      · rw [if_neg c0, e2.1, if_neg]
        intro z
        obtain ⟨k, hk, rfl⟩ := nI_of c0
        exact hn k ((nI_ltI hk (by omega)).mp z) rfl
    · rw [u1]
      simp only [Option.bind_some]
      rw [u5.1, hin, if_pos rfl]
/-- the weights of the slips of one hand -/
def hW (D : Dt) (I : List Nat) (h : Int32) : Nat := (I.map (fun i => if kA D i < 5 ∧ D.2.1 (5 * pA D i + 3) = h then wA D i else 0)).sum
theorem hW_app (D : Dt) (I : List Nat) (i : Nat) (h : Int32) : hW D (I ++ [i]) h = hW D I h + if kA D i < 5 ∧ D.2.1 (5 * pA D i + 3) = h then wA D i else 0 := by
  unfold hW; rw [List.map_append, List.sum_append]; simp
theorem hW_le {D : Dt} (ok : okD D) (h : Int32) : ∀ {I : List Nat}, (∀ i ∈ I, i < nA D) → hW D I h ≤ I.length * 9801
  | [], _ => by simp [hW]
  | i :: I, hh => by
    have ih := hW_le ok h (I := I) (fun j hj => hh j (List.mem_cons_of_mem _ hj))
    have hw := (wA_ok ok (hh i List.mem_cons_self)).2.1
    unfold hW at ih ⊢
    rw [List.map_cons, List.sum_cons, List.length_cons, Nat.add_mul]
    split <;> omega
theorem c_hand {N : Nat} {D : Dt} {h : Int32} {S : aSt} (ok : okD D) (hS : slC S (SL D)) (hD : lgC S D) (hG : sg22 S D (SI D qA)) : ∀ (m i f : Nat), i + m = (SI D qA).length → m < f → X7_weightsOfHand_22_l5 N S f h (lN (hW D ((SI D qA).take i) h)) (nI i) = some (lN (hW D (SI D qA) h)) := by
  have h157 := SI_157 (q := qA) ok
  intro m
  induction m with
  | zero =>
    intro i f hi hf
    obtain ⟨f, rfl⟩ : ∃ q, f = q + 1 := ⟨f - 1, by omega⟩
    have : i = (SI D qA).length := by omega
    subst this
    show X7_weightsOfHand_22_b5 N S (X7_weightsOfHand_22_l5 N S f) _ _ _ = _
    unfold X7_weightsOfHand_22_b5
    rw [hG.1, if_pos (Int32.le_refl _), List.take_length]
  | succ m ih =>
    intro i f hi hf
    obtain ⟨f, rfl⟩ : ∃ q, f = q + 1 := ⟨f - 1, by omega⟩
    have hil : i < (SI D qA).length := by omega
    have hs := SI_lt (D := D) (q := qA) hil
    obtain ⟨a1, a2, -, a4⟩ := c_slA hS ok hs
    have hx := SL_ok ok (getD_mem (d := sl0) (A := SL D) hs)
    obtain ⟨w1, w2, w3, w4⟩ := wA_ok ok hs
    have hi2 := ih (i + 1) f (by omega) (by omega)
    rw [take_n hil, hW_app] at hi2
    show X7_weightsOfHand_22_b5 N S (X7_weightsOfHand_22_l5 N S f) _ _ _ = _
    unfold X7_weightsOfHand_22_b5 X7_weightsOfHand_22_b69
    simp only [aLet]
    rw [hG.1, if_neg (by exact iNLE (SI D qA).length i (by omega)), e_slip22 hG hil h157, a1, a2, a4, nI_1]
    by_cases c5 : 5 ≤ kA D ((SI D qA).getD i 0)
    · rw [if_pos (by exact iLE 5 (kA D ((SI D qA).getD i 0)) c5 rfl rfl w3)]
      rw [if_neg (fun z => by omega)] at hi2
      exact hi2
    · have hp : pA D ((SI D qA).getD i 0) < D.1 := hx.2.2.2.2.1 (show kA D ((SI D qA).getD i 0) < 5 by omega)
      have t3 : X2_told_8 (nI (pA D ((SI D qA).getD i 0))) (3 : Int32) S = D.2.1 (5 * pA D ((SI D qA).getD i 0) + 3) := c_told (w := 3) hD ok hp (by omega)
      rw [if_neg (by exact iNLE 5 (kA D ((SI D qA).getD i 0)) (by omega)), t3]
      by_cases c : D.2.1 (5 * pA D ((SI D qA).getD i 0) + 3) = h
      · rw [if_pos c, nI_l (by omega), lN_add]
        rw [if_pos ⟨by omega, c⟩] at hi2
        exact hi2
      · rw [if_neg c]
        rw [if_neg (fun z => c z.2)] at hi2
        exact hi2
theorem r_hand {N : Nat} {D : Dt} {h p : Int32} {S : aSt} (ok : okD D) (hS : slR S (SL D)) (hD : lgR S D) (hG : onR S (SI D qA)) : ∀ (m i f : Nat), i + m = (SI D qA).length → m < f → X11_whose_42_l40 N f h p (lN (hW D ((SI D qA).take i) h)) (nI i) S = X11_whose_42_b110 N p (lN (hW D (SI D qA) h)) S := by
  have h157 := SI_157 (q := qA) ok
  intro m
  induction m with
  | zero =>
    intro i f hi hf
    obtain ⟨f, rfl⟩ : ∃ q, f = q + 1 := ⟨f - 1, by omega⟩
    have : i = (SI D qA).length := by omega
    subst this
    show X11_whose_42_b40 N (X11_whose_42_l40 N f) _ _ _ _ _ = _
    unfold X11_whose_42_b40
    rw [hG.1, if_pos (Int32.le_refl _), List.take_length]
  | succ m ih =>
    intro i f hi hf
    obtain ⟨f, rfl⟩ : ∃ q, f = q + 1 := ⟨f - 1, by omega⟩
    have hil : i < (SI D qA).length := by omega
    have hs := SI_lt (D := D) (q := qA) hil
    obtain ⟨s1, s2, s3, s4, -, s6⟩ := r_slA hS ok hs
    have hx := SL_ok ok (getD_mem (d := sl0) (A := SL D) hs)
    obtain ⟨w1, w2, w3, w4⟩ := wA_ok ok hs
    have hi2 := ih (i + 1) f (by omega) (by omega)
    rw [take_n hil, hW_app] at hi2
    show X11_whose_42_b40 N (X11_whose_42_l40 N f) _ _ _ _ _ = _
    have z0 : ∀ a : Nat, lN a + (0 : Int64) = lN (a + 0) := fun a => lN_add a 0
    unfold X11_whose_42_b40 X11_whose_42_b101 X11_whose_42_b102
    rw [hG.1, if_neg (by exact iNLE (SI D qA).length i (by omega)), if_pos (m_ix (show i < 2048 by omega) (by decide)), nI_clamp (show i < 2 ^ 31 by omega), hG.2 i hil, if_pos s1, s2, s3, s4, s6, nI_1, z0]
    by_cases c5 : 5 ≤ kA D ((SI D qA).getD i 0)
    · rw [if_pos (by exact iLE 5 (kA D ((SI D qA).getD i 0)) c5 rfl rfl w3)]
      rw [if_neg (fun z => by omega)] at hi2
      exact hi2
    · have hp : pA D ((SI D qA).getD i 0) < D.1 := hx.2.2.2.2.1 (show kA D ((SI D qA).getD i 0) < 5 by omega)
      obtain ⟨a3, b3⟩ := r_P (w := 3) hD ok hp (by omega)
      rw [if_neg (by exact iNLE 5 (kA D ((SI D qA).getD i 0)) (by omega)), if_pos s1, m_50, m_a3, if_pos a3, b3]
      by_cases c : D.2.1 (5 * pA D ((SI D qA).getD i 0) + 3) = h
      · rw [if_pos c, if_pos s1, nI_l (by omega), lN_add]
        rw [if_pos ⟨by omega, c⟩] at hi2
        exact hi2
      · rw [if_neg c]
        rw [if_neg (fun z => c z.2)] at hi2
        exact hi2
theorem m_whose {N c : Nat} (x p : Int32) {S : aSt} (hN : 3000 ≤ N) (hc : c < 2 ^ 31) (h : GR S c) : ∃ r S1 S2, X10_whose_0 N x p S = some (r, S1) ∧ X11_whose_42 N x p S1 = some (r, S2) ∧ GR S2 c := by
  obtain ⟨hh, hc1⟩ := m_isHand N x
  obtain ⟨hp1, hp2⟩ := m_isPart N p
  unfold X10_whose_0
  simp only [aLet]
  have r11 : ∀ T : aSt, X11_whose_42 N x p T = (if X10_isHand x = (0 : Int32) then some ((((-2) : Int32), T)) else (if X10_isPart p = (0 : Int32) then some ((((-3) : Int32), T)) else (Option.bind (X11_layOnes_42 N (0 : Int32) T) (fun w7 => (if (w7.1 42 25) = (0 : Int32) then some ((((-4) : Int32), w7)) else (X11_whose_42_l40 N N x p (0 : Int64) (0 : Int32) w7)))))) := fun T => by
    unfold X11_whose_42
    rw [hh, hp1]
    rfl
  rcases hc1 with ⟨hc1, -⟩ | hc1
  · rw [hc1, if_neg n10]
    rcases hp2 with hp2 | hp2
    · rw [hp2, if_pos rfl]
      exact ⟨_, S, S, rfl, by rw [r11, hc1, if_neg n10, hp2, if_pos rfl], h⟩
    · rw [hp2, if_neg n10]
      obtain ⟨T, w1, w2, der⟩ := c_workOut hN hc h
      obtain ⟨ok, lc, lr, hd, dc, dr⟩ := w2.all
      obtain ⟨e1, e2, -, -, -, -, -⟩ := der
      have h157 := SI_157 (q := qA) ok
      obtain ⟨U, u1, u2, u3, u4, u5⟩ := r_ones (q := qA) (fl := 0) hN ok hd lr dr (Or.inl ⟨rfl, fun _ => rfl⟩)
      have fU := F_X11_layOnes_42 _ _ _ u1
      have gU := w2.fr fU (by decide)
      rw [w1]
      simp only [Option.bind_some]
      rw [e2.1]
      by_cases c0 : (SI (Dof T) qA).length = 0
      · refine ⟨_, T, U, by rw [if_pos (by rw [c0]; rfl)], ?_, gU⟩
        rw [r11, hc1, if_neg n10, hp2, if_neg n10, u1]
        simp only [Option.bind_some]
        rw [u5.1, if_pos (by rw [c0]; rfl)]
      · obtain ⟨ws1, ws2⟩ := wsum_SI (q := qA) ok
        have hw1 := hW_le ok x (I := SI (Dof T) qA) (fun i hi => SI_mem hi)
        have hw2 : (SI (Dof T) qA).length * 9801 ≤ 157 * 9801 := Nat.mul_le_mul_right _ h157
        obtain ⟨r, r1, r2⟩ := m_lowest (N := N) (a := hW (Dof T) (SI (Dof T) qA) x) (b := wsum (Dof T) (SI (Dof T) qA)) p (by omega) (by omega) (by omega) (Or.inr (by omega))
        have k1 : X7_weightsOfHand_22 N x T = some (lN (hW (Dof T) (SI (Dof T) qA) x)) := c_hand (N := N) (h := x) ok e1 lc e2 (SI (Dof T) qA).length 0 N (by omega) (by omega)
        have k2 := r_hand (N := N) (h := x) (p := p) ok u2 u3 u5 (SI (Dof T) qA).length 0 N (by omega) (by omega)
        have hwt2 : X11_oneWeights_42 N U = some (lN (wsum (Dof T) (SI (Dof T) qA))) := r_weights (N := N) (S := U) ok u2 u5 (SI (Dof T) qA).length 0 N (by omega) (by omega)
        refine ⟨r.toInt32, T, U, ?_, ?_, gU⟩
        · rw [if_neg (by exact iNE (SI (Dof T) qA).length 0 c0), k1]
          simp only [Option.bind_some]
          rw [e2.2.1, r1]
          rfl
        · rw [r11, hc1, if_neg n10, hp2, if_neg n10, u1]
          simp only [Option.bind_some]
          rw [u5.1, if_neg (by exact iNE (SI (Dof T) qA).length 0 c0), show X11_whose_42_l40 N N x p (0 : Int64) (0 : Int32) U = _ from k2]
          unfold X11_whose_42_b110
          rw [hwt2]
          simp only [Option.bind_some]
          rw [r2]
          rfl
  · rw [hc1, if_pos rfl]
    exact ⟨_, S, S, rfl, by rw [r11, hc1, if_pos rfl], h⟩
theorem m_look {N c : Nat} {z : Int32} (x : Int32) {S : aSt} (hN : 3000 ≤ N) (hc : c < 2 ^ 31) (hz : z = 0 ∨ z = 1) (h : GR S c) : ∃ r S1 S2, X10_look_0 N x z S = some (r, S1) ∧ X11_look_42 N x z S1 = some (r, S2) ∧ GR S2 c := by
  unfold X10_look_0
  by_cases c1 : ¬ (-1 : Int32) ≤ x
  · refine ⟨_, S, S, by rw [if_neg c1], ?_, h⟩
    unfold X11_look_42
    rw [if_neg c1]
  have c1 := Classical.not_not.mp c1
  rw [if_pos c1]
  obtain ⟨T, w1, w2, der⟩ := c_workOut hN hc h
  obtain ⟨ok, lc, lr, hd, dc, dr⟩ := w2.all
  have h30 := ok.1
  obtain ⟨-, -, -, -, -, e6, e7⟩ := der
  rw [w1]
  simp only [Option.bind_some]
  have core : ∀ (q : Sl → Bool) (F : Option (Int32 × aSt)), ((z = 0 ∧ ∀ x, q x = true) ∨ (z = 1 ∧ ∀ x, q x = nar (Dof T) (bOf T) (T.2.2 46) x)) → F = (if x = -1 then some (nI (lkN (Dof T) q), T) else if nI (lkN (Dof T) q) ≤ x then some (-1, T) else some (nI (lkA (Dof T) q x.toNatClampNeg), T)) → ∃ r S1 S2, F = some (r, S1) ∧ X11_look_42 N x z S1 = some (r, S2) ∧ GR S2 c := by
    intro q F hq hF
    have hk1 : lkN (Dof T) q ≤ (Dof T).1 := (lkF_ok (Dof T) q (Dof T).1).1
    obtain ⟨U, u1, u2, u3⟩ := r_looks (q := q) hN ok hd lr dr hq
    have gU := w2.fr (F_X11_layLooks_42 _ _ _ u1) (by decide)
    have run : X11_look_42 N x z T = (if x = ((-1) : Int32) then some (((U.1 42 32), U)) else (if (U.1 42 32) ≤ x then some ((((-1) : Int32), U)) else (if aIx x 30 = true then some ((((U.2.2 57) x.toNatClampNeg), U)) else none))) := by
      unfold X11_look_42
      rw [if_pos c1, u1]
      rfl
    by_cases cm : x = -1
    · exact ⟨_, T, U, by rw [hF, if_pos cm], by rw [run, if_pos cm, u2.1], gU⟩
    · obtain ⟨k, hk, rfl⟩ := m_ge (Int32.not_lt.mpr c1) cm
      by_cases ck : k < lkN (Dof T) q
      · have hn : ¬ nI (lkN (Dof T) q) ≤ nI k := by rw [nI_leI (by omega) hk]; omega
        refine ⟨_, T, U, by rw [hF, if_neg cm, if_neg hn], ?_, gU⟩
        rw [run, if_neg cm, u2.1, if_neg hn, if_pos (m_ix (by omega) (by decide)), nI_clamp hk, u2.2.1 k ck]
      · have hn : nI (lkN (Dof T) q) ≤ nI k := by rw [nI_leI (by omega) hk]; omega
        exact ⟨_, T, U, by rw [hF, if_neg cm, if_pos hn], by rw [run, if_neg cm, u2.1, if_pos hn], gU⟩
  rcases hz with hz | hz
  · rw [if_pos hz]
    refine core qA _ (Or.inl ⟨hz, fun _ => rfl⟩) ?_
    have hk1 : lkN (Dof T) qA ≤ (Dof T).1 := (lkF_ok (Dof T) qA (Dof T).1).1
    unfold X10_look_0_b27
    simp only [aLet]
    rw [e6.1]
    by_cases cm : x = -1
    · rw [if_pos cm, if_pos cm]
    · rw [if_neg cm, if_neg cm]
      by_cases ck : nI (lkN (Dof T) qA) ≤ x
      · rw [if_pos ck, if_pos ck]
      · rw [if_neg ck, if_neg ck]
        obtain ⟨k, hk, rfl⟩ := m_ge (Int32.not_lt.mpr c1) cm
        rw [nI_leI (by omega) hk] at ck
        have e33 : X3_entryAt_30 (nI k) T = nI (lkA (Dof T) qA k) := by
          unfold X3_entryAt_30 X6_at_33
          simp only [aLet]
          rw [if_neg (nI_pos hk), if_neg (by exact iNLE 30 k (by omega)), nI_clamp hk, e6.2.1 k (by omega)]
        rw [e33, nI_clamp hk]
  · rw [if_neg (by rw [hz]; decide)]
    refine core (nar (Dof T) (bOf T) (T.2.2 46)) _ (Or.inr ⟨hz, fun _ => rfl⟩) ?_
    have hk1 : lkN (Dof T) (nar (Dof T) (bOf T) (T.2.2 46)) ≤ (Dof T).1 := (lkF_ok (Dof T) _ (Dof T).1).1
    unfold X10_look_0_b27b
    simp only [aLet]
    rw [e7.1]
    by_cases cm : x = -1
    · rw [if_pos cm, if_pos cm]
    · rw [if_neg cm, if_neg cm]
      by_cases ck : nI (lkN (Dof T) (nar (Dof T) (bOf T) (T.2.2 46))) ≤ x
      · rw [if_pos ck, if_pos ck]
      · rw [if_neg ck, if_neg ck]
        obtain ⟨k, hk, rfl⟩ := m_ge (Int32.not_lt.mpr c1) cm
        rw [nI_leI (by omega) hk] at ck
        have e33 : X3_entryAt_34 (nI k) T = nI (lkA (Dof T) (nar (Dof T) (bOf T) (T.2.2 46)) k) := by
          unfold X3_entryAt_34 X6_at_37
          simp only [aLet]
          rw [if_neg (nI_pos hk), if_neg (by exact iNLE 30 k (by omega)), nI_clamp hk, e7.2.1 k (by omega)]
        rw [e33, nI_clamp hk]
theorem r_mean {N : Nat} {D : Dt} {q : Sl → Bool} {p : Int32} {S : aSt} (hN : 100 ≤ N) (ok : okD D) (hD : lgR S D) (hL : lkR S D q) : ∀ (m i f : Nat), i + m = lkN D q → m < f → X11_mean_42_l36 N f p (lN (msF D q (lkA D q) i).2.1) (lN (msF D q (lkA D q) i).2.2) (nI (msF D q (lkA D q) i).1) (nI i) S = X11_mean_42_b107 N p (lN (msF D q (lkA D q) (lkN D q)).2.1) (lN (msF D q (lkA D q) (lkN D q)).2.2) S := by
  have he := ok.1
  obtain ⟨k1, k2⟩ := lkF_ok D q D.1
  have hk1 : lkN D q ≤ D.1 := k1
  intro m
  induction m with
  | zero =>
    intro i f hi hf
    obtain ⟨f, rfl⟩ : ∃ q, f = q + 1 := ⟨f - 1, by omega⟩
    have : i = lkN D q := by omega
    subst this
    show X11_mean_42_b36 N (X11_mean_42_l36 N f) _ _ _ _ _ _ = _
    unfold X11_mean_42_b36
    rw [hL.1, if_pos (Int32.le_refl _)]
  | succ m ih =>
    intro i f hi hf
    obtain ⟨f, rfl⟩ : ∃ q, f = q + 1 := ⟨f - 1, by omega⟩
    have hil : i < lkN D q := by omega
    have hlt : lkA D q i < D.1 := (k2 i hil).1
    have lw := owS_le (q := q) ok (lkA D q i)
    have rn := nd_range (D.sm (lkA D q i))
    have hms := msF_ok (q := q) (A := lkA D q) ok i (by omega)
    obtain ⟨a1, b1⟩ := r_P (w := 1) hD ok hlt (by omega)
    rw [(ok.sm hlt).1] at b1
    rw [← ih (i + 1) f (by omega) (by omega)]
    show X11_mean_42_b36 N (X11_mean_42_l36 N f) _ _ _ _ _ _ = _
    unfold X11_mean_42_b36
    rw [hL.1, if_neg (by exact iNLE (lkN D q) i hil), if_pos (m_ix (show i < 30 by omega) (by decide)), nI_clamp (show i < 2 ^ 31 by omega), hL.2.1 i hil, m_50, show nI (5 * lkA D q i) + (1 : Int32) = nI (5 * lkA D q i + 1) from nI_1 _, if_pos a1, b1, X11_figures_eq (by omega) (ok.sm hlt).2.2]
    simp only [Option.bind_some]
    rw [if_pos (m_ix (show lkA D q i < 30 by omega) (by decide)), if_pos (m_ix (show lkA D q i < 30 by omega) (by decide)), nI_clamp (show lkA D q i < 2 ^ 31 by omega), hL.2.2 _ (by omega), nI_l (by omega), nI_add, nI_l (by omega), lN_mul, lN_add, lN_add, nI_1]
    rfl
theorem msF_pos {D : Dt} {q : Sl → Bool} (h : 0 < lkN D q) : 0 < (msF D q (lkA D q) (lkN D q)).2.2 := by
  obtain ⟨n, hn⟩ : ∃ n, lkN D q = n + 1 := ⟨lkN D q - 1, by omega⟩
  have h2 := (lkF_ok D q D.1).2 n (show n < lkN D q by omega)
  have h3 : 0 < owS D q (lkA D q n) := h2.2
  rw [hn, msF]
  show 0 < (msF D q (lkA D q) n).2.2 + owS D q (lkA D q n)
  omega
theorem m_mean {N c : Nat} {z : Int32} (p : Int32) {S : aSt} (hN : 3000 ≤ N) (hc : c < 2 ^ 31) (hz : z = 0 ∨ z = 1) (h : GR S c) : ∃ r S1 S2, X10_mean_0 N z p S = some (r, S1) ∧ X11_mean_42 N z p S1 = some (r, S2) ∧ GR S2 c := by
  obtain ⟨hp1, hp2⟩ := m_isPart N p
  unfold X10_mean_0
  simp only [aLet]
  rcases hp2 with hp2 | hp2
  · refine ⟨_, S, S, by rw [hp2, if_pos rfl], ?_, h⟩
    unfold X11_mean_42
    rw [hp1, hp2]
    rfl
  rw [hp2, if_neg n10]
  obtain ⟨T, w1, w2, der⟩ := c_workOut hN hc h
  obtain ⟨ok, lc, lr, hd, dc, dr⟩ := w2.all
  have h30 := ok.1
  obtain ⟨-, -, -, -, -, e6, e7⟩ := der
  rw [w1]
  simp only [Option.bind_some]
  have core : ∀ (q : Sl → Bool) (F : Option (Int32 × aSt)), ((z = 0 ∧ ∀ x, q x = true) ∨ (z = 1 ∧ ∀ x, q x = nar (Dof T) (bOf T) (T.2.2 46) x)) → F = (if nI (lkN (Dof T) q) = (0 : Int32) then some (-4, T) else (Option.bind (X1_lowest N (lN (msF (Dof T) q (lkA (Dof T) q) (lkN (Dof T) q)).2.1) (lN (msF (Dof T) q (lkA (Dof T) q) (lkN (Dof T) q)).2.2) p) (fun w8 => some (((w8.toInt32), T))))) → ∃ r S1 S2, F = some (r, S1) ∧ X11_mean_42 N z p S1 = some (r, S2) ∧ GR S2 c := by
    intro q F hq hF
    have hk1 : lkN (Dof T) q ≤ (Dof T).1 := (lkF_ok (Dof T) q (Dof T).1).1
    obtain ⟨U, u1, u2, u3⟩ := r_looks (q := q) hN ok hd lr dr hq
    have gU := w2.fr (F_X11_layLooks_42 _ _ _ u1) (by decide)
    have run : X11_mean_42 N z p T = (if (U.1 42 32) = (0 : Int32) then some ((((-4) : Int32), U)) else (X11_mean_42_l36 N N p (0 : Int64) (0 : Int64) (0 : Int32) (0 : Int32) U)) := by
      unfold X11_mean_42
      rw [hp1, hp2]
      simp only [Option.bind_some]
      rw [if_neg n10, u1]
      rfl
    by_cases c0 : lkN (Dof T) q = 0
    · have e0 : nI (lkN (Dof T) q) = 0 := by rw [c0]; rfl
      exact ⟨_, T, U, by rw [hF, if_pos e0], by rw [run, u2.1, if_pos e0], gU⟩
    · have e0 : ¬ nI (lkN (Dof T) q) = 0 := iNE (lkN (Dof T) q) 0 c0
      have hms := msF_ok (q := q) (A := lkA (Dof T) q) ok (lkN (Dof T) q) (by omega)
      have hpos := msF_pos (D := Dof T) (q := q) (by omega)
      have hb1 : lkN (Dof T) q * (1538757 * 180) ≤ 30 * (1538757 * 180) := Nat.mul_le_mul_right _ (by omega)
      have hb2 : lkN (Dof T) q * 1538757 ≤ 30 * 1538757 := Nat.mul_le_mul_right _ (by omega)
      obtain ⟨r, r1, r2⟩ := m_lowest (N := N) (a := (msF (Dof T) q (lkA (Dof T) q) (lkN (Dof T) q)).2.1) (b := (msF (Dof T) q (lkA (Dof T) q) (lkN (Dof T) q)).2.2) p (by omega) (by omega) (by omega) (Or.inr hpos)
      refine ⟨r.toInt32, T, U, by rw [hF, if_neg e0, r1]; rfl, ?_, gU⟩
      have k2 := r_mean (N := N) (p := p) (by omega) ok u3 u2 (lkN (Dof T) q) 0 N (by omega) (by omega)
      rw [run, u2.1, if_neg e0, show X11_mean_42_l36 N N p (0 : Int64) (0 : Int64) (0 : Int32) (0 : Int32) U = _ from k2]
      unfold X11_mean_42_b107
      rw [r2]
      rfl
  rcases hz with hz | hz
  · rw [if_pos hz]
    refine core qA _ (Or.inl ⟨hz, fun _ => rfl⟩) ?_
    unfold X10_mean_0_b29
    rw [e6.1, e6.2.2.1, e6.2.2.2]
  · rw [if_neg (by rw [hz]; decide)]
    refine core (nar (Dof T) (bOf T) (T.2.2 46)) _ (Or.inr ⟨hz, fun _ => rfl⟩) ?_
    unfold X10_mean_0_b29b
    rw [e7.1, e7.2.2.1, e7.2.2.2]
