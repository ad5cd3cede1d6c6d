/-! chains -/
theorem m_lgle (x y : Int64) : lg_cmp x y ≤ 0 ↔ ¬ y < x := by
  rw [← Int32.not_lt]
  exact not_congr (lg_cmp_gt x y)
theorem m_rem (x : Int32) : x - x / 1021 * 1021 = Int32.ofInt (x.toInt.tmod 1021) := by
  have e1 : x / 1021 = Int32.ofInt (x.toInt.tdiv 1021) := by
    apply Int32.toInt_inj.mp
    rw [Int32.toInt_div, Int32.toInt_ofInt]
    rfl
  have e2 : x = Int32.ofInt x.toInt := by simp
  have e3 : x.toInt.tmod 1021 = x.toInt - x.toInt.tdiv 1021 * 1021 := by
    have := Int.mul_tdiv_add_tmod x.toInt 1021
    omega
  rw [e3, Int32.ofInt_sub, Int32.ofInt_mul, ← e1, ← e2]
  rfl
theorem m_sgn (x : Int32) : 0 ≤ x ^^^ 1021 ↔ 0 ≤ x := by
  have key : ∀ y : Int32, 0 ≤ y ↔ y.toBitVec.msb = false := by
    intro y
    rw [BitVec.msb_eq_toInt, Int32.le_iff_toInt_le]
    show (0 : Int) ≤ y.toBitVec.toInt ↔ _
    simp
  rw [key, key, Int32.toBitVec_xor, BitVec.msb_xor]
  have : (1021 : Int32).toBitVec.msb = false := by decide
  rw [this, Bool.xor_false]
theorem m_fm (N : Nat) (x : Int32) : ∃ h : Nat, h < 1021 ∧ J9_floorMod_7cf53 N x 1021 = some (nI h) := by
  unfold J9_floorMod_7cf53
  rw [if_pos (by decide), m_rem]
  have hb1 := Int.tmod_lt_of_pos x.toInt (show (0 : Int) < 1021 by decide)
  have hng : x.toInt.tmod 1021 = -((-x.toInt).tmod 1021) := by rw [Int.neg_tmod, Int.neg_neg]
  have hb3 := Int.tmod_lt_of_pos (-x.toInt) (show (0 : Int) < 1021 by decide)
  have hb2 : -1021 < x.toInt.tmod 1021 := by omega
  by_cases c : 0 ≤ x
  · rw [if_pos ((m_sgn x).mpr c)]
    have h0 : 0 ≤ x.toInt.tmod 1021 := by
      have : (0 : Int) ≤ x.toInt := Int32.le_iff_toInt_le.mp c
      exact Int.tmod_nonneg _ this
    exact ⟨(x.toInt.tmod 1021).toNat, by omega, by rw [← zI_nat]; congr 2; omega⟩
  · rw [if_neg (fun z => c ((m_sgn x).mp z))]
    have h0 : x.toInt.tmod 1021 ≤ 0 := by
      have : ¬ (0 : Int) ≤ x.toInt := fun z => c (Int32.le_iff_toInt_le.mpr z)
      rw [hng]
      have := Int.tmod_nonneg (a := -x.toInt) 1021 (by omega)
      omega
    by_cases c2 : x.toInt.tmod 1021 = 0
    · rw [c2]
      rw [if_pos (by decide)]
      exact ⟨0, by omega, rfl⟩
    · rw [if_neg (ofInt_ne0 c2 (by omega) (by omega))]
      refine ⟨(x.toInt.tmod 1021 + 1021).toNat, by omega, ?_⟩
      rw [← zI_nat, show (1021 : Int32) = Int32.ofInt 1021 from rfl, ← Int32.ofInt_add]
      congr 2; omega
/-- the chain of a change -/
def hs (x : Int32) : Nat := ((J9_floorMod_7cf53 0 x 1021).getD 0).toNatClampNeg
theorem m_hs (N : Nat) (x : Int32) : J9_floorMod_7cf53 N x 1021 = some (nI (hs x)) ∧ hs x < 1021 := by
  obtain ⟨h, h1, h2⟩ := m_fm 0 x
  have : hs x = h := by unfold hs; rw [h2]; exact nI_clamp (by omega)
  rw [this]
  exact ⟨h2, h1⟩
def cA (D : Dt) (i : Nat) : Int32 := ((SL D).getD i sl0).2.2.2.1
def kA (D : Dt) (i : Nat) : Nat := ((SL D).getD i sl0).1
def pA (D : Dt) (i : Nat) : Nat := ((SL D).getD i sl0).2.1
def wA (D : Dt) (i : Nat) : Nat := ((SL D).getD i sl0).2.2.2.2
def nA (D : Dt) : Nat := (SL D).length
/-- the first slip of a chain among the last r -/
def fsr (D : Dt) (h : Nat) : Nat → Int32
  | 0 => -1
  | r + 1 => if hs (cA D (nA D - (r + 1))) = h then nI (nA D - (r + 1)) else fsr D h r
def chC (S : aSt) (D : Dt) : Prop := (∀ h, h < 1021 → S.2.2 20 h = fsr D h (nA D)) ∧ ∀ k, k < nA D → S.2.2 21 k = fsr D (hs (cA D k)) (nA D - (k + 1))
theorem chC.fr {W : aWr} {S T : aSt} {D : Dt} (h : chC S D) (f : aFr W S T) (q : 20 ∉ W.2.2 ∧ 21 ∉ W.2.2) : chC T D := by
  unfold chC
  rw [f.2.2 _ q.1, f.2.2 _ q.2]
  exact h
theorem c_fill20 {N : Nat} {v : Int32} : ∀ (m i f : Nat) (S : aSt), i + m = 1021 → m < f → (∀ h, h < i → S.2.2 20 h = v) → ∃ T, J7_fill_53178_20_l5 N f v (nI i) (1021 : Int32) S = some T ∧ (∀ h, h < 1021 → T.2.2 20 h = v) ∧ aFr ([], [], [20]) S T := by
  intro m
  induction m with
  | zero =>
    intro i f S hi hf h
    obtain ⟨f, rfl⟩ : ∃ q, f = q + 1 := ⟨f - 1, by omega⟩
    have : i = 1021 := by omega
    subst this
    refine ⟨S, ?_, h, aFr.rf⟩
    show J7_fill_53178_20_b5 N (J7_fill_53178_20_l5 N f) _ _ _ _ = _
    unfold J7_fill_53178_20_b5
    rw [if_pos (by decide)]
  | succ m ih =>
    intro i f S hi hf h
    obtain ⟨f, rfl⟩ : ∃ q, f = q + 1 := ⟨f - 1, by omega⟩
    have fr : aFr ([], [], [20]) S (aA S 20 (upd (S.2.2 20) i v)) := aFr.rf.A 20 _ (by decide)
    obtain ⟨T, t1, t2, t3⟩ := ih (i + 1) f (aA S 20 (upd (S.2.2 20) i v)) (by omega) (by omega) (fun j hj => by
      rw [gA, if_pos rfl, gU]
      by_cases c : j = i
      · rw [if_pos c]
      · rw [if_neg c]; exact h j (by omega))
    refine ⟨T, ?_, t2, fr.tr t3⟩
    rw [← t1]
    show J7_fill_53178_20_b5 N (J7_fill_53178_20_l5 N f) _ _ _ _ = _
    unfold J7_fill_53178_20_b5
    rw [if_neg (by exact iNLE 1021 i (by omega)), if_pos (m_ix (by omega) (by decide)), nI_clamp (by omega), nI_1]
theorem c_chain_l {N : Nat} {D : Dt} (ok : okD D) : ∀ (m f : Nat) (S : aSt), m ≤ nA D → m < f → slC S (SL D) → (∀ h, h < 1021 → S.2.2 20 h = fsr D h (nA D - m)) → (∀ k, m ≤ k → k < nA D → S.2.2 21 k = fsr D (hs (cA D k)) (nA D - (k + 1))) → ∃ T, X8_chain_14_l15 N f (nI m - 1) S = some T ∧ chC T D ∧ aFr ([], [], [20, 21]) S T := by
  have hlen := SL_len ok
  intro m
  induction m with
  | zero =>
    intro f S hm hf hS h1 h2
    obtain ⟨f, rfl⟩ : ∃ q, f = q + 1 := ⟨f - 1, by omega⟩
    refine ⟨S, ?_, ⟨fun h hh => h1 h hh, fun k hk => h2 k (by omega) hk⟩, aFr.rf⟩
    show X8_chain_14_b15 N (X8_chain_14_l15 N f) _ _ = _
    unfold X8_chain_14_b15
    rw [if_pos ((m1_neg (by omega)).mpr rfl)]
  | succ m ih =>
    intro f S hm hf hS h1 h2
    obtain ⟨f, rfl⟩ : ∃ q, f = q + 1 := ⟨f - 1, by omega⟩
    have hml : m < (SL D).length := by unfold nA at hm; omega
    obtain ⟨-, -, -, hc, -⟩ := c_slip hS hlen hml
    obtain ⟨hf1, hf2⟩ := m_hs N (cA D m)
    have e20 : X6_at_20 (nI (hs (cA D m))) S = fsr D (hs (cA D m)) (nA D - (m + 1)) := by
      unfold X6_at_20
      rw [if_neg (nI_pos (by omega)), if_neg (by exact iNLE 1021 (hs (cA D m)) hf2), nI_clamp (by omega), h1 _ hf2]
    have e21 : ∀ v (T : aSt), X6_set_21 (nI m) v T = aA T 21 (upd (T.2.2 21) m v) := fun v T => by
      unfold X6_set_21
      rw [if_neg (nI_pos (by omega)), if_neg (by exact iNLE 1921 m (by omega)), nI_clamp (by omega)]
    have e20s : ∀ v (T : aSt), X6_set_20 (nI (hs (cA D m))) v T = aA T 20 (upd (T.2.2 20) (hs (cA D m)) v) := fun v T => by
      unfold X6_set_20
      rw [if_neg (nI_pos (by omega)), if_neg (by exact iNLE 1021 (hs (cA D m)) hf2), nI_clamp (by omega)]
    generalize hS2 : aA (aA S 21 (upd (S.2.2 21) m (fsr D (hs (cA D m)) (nA D - (m + 1))))) 20 (upd (S.2.2 20) (hs (cA D m)) (nI m)) = S2
    have fr : aFr ([], [], [20, 21]) S S2 := by
      rw [← hS2]; exact (aFr.rf.A 21 _ (by decide)).A 20 _ (by decide)
    have er : nA D - m = (nA D - (m + 1)) + 1 := by omega
    obtain ⟨T, t1, t2, t3⟩ := ih f S2 (by omega) (by omega) (rows_fr hS fr (by decide)) (fun h hh => by
      have : S2.2.2 20 h = upd (S.2.2 20) (hs (cA D m)) (nI m) h := by rw [← hS2, gA, if_pos rfl]
      rw [this, gU, er, fsr, show nA D - (nA D - (m + 1) + 1) = m by omega]
      by_cases c : h = hs (cA D m)
      · rw [if_pos c, if_pos c.symm]
      · rw [if_neg c, if_neg (fun z => c z.symm)]; exact h1 h hh) (fun k hk1 hk2 => by
      have : S2.2.2 21 k = upd (S.2.2 21) m (fsr D (hs (cA D m)) (nA D - (m + 1))) k := by rw [← hS2, gA, if_neg (by decide), gA, if_pos rfl]
      rw [this, gU]
      by_cases c : k = m
      · rw [if_pos c, c]
      · rw [if_neg c]; exact h2 k (by omega) hk2)
    refine ⟨T, ?_, t2, fr.tr t3⟩
    rw [← t1]
    show X8_chain_14_b15 N (X8_chain_14_l15 N f) _ _ = _
    unfold X8_chain_14_b15
    simp only [aLet]
    rw [if_neg (by rw [m1_neg (by omega)]; omega), nI_pred, hc, show ((SL D).getD m sl0).2.2.2.1 = cA D m from rfl, hf1]
    simp only [Option.bind_some]
    rw [e20, e21, e20s, gA, if_neg (by decide), hS2, ← Int32.sub_eq_add_neg]
theorem c_chain {N : Nat} {D : Dt} {S : aSt} (hN : 3000 ≤ N) (ok : okD D) (hS : slC S (SL D)) : ∃ T, X8_chain_14 N S = some T ∧ chC T D ∧ aFr ([], [], [20, 21]) S T := by
  have hlen := SL_len ok
  obtain ⟨T1, a1, a2, a3⟩ := c_fill20 (N := N) (v := -1) 1021 0 N S rfl (by omega) (fun h hh => by omega)
  have h1 := rows_fr hS a3 (by decide)
  obtain ⟨T2, b1, b2, b3⟩ := c_chain_l (N := N) ok (nA D) N T1 (Nat.le_refl _) (by unfold nA; omega) h1 (fun h hh => by rw [Nat.sub_self]; exact a2 h hh) (fun k k1 k2 => by omega)
  refine ⟨T2, ?_, b2, (a3.mono (by decide)).tr b3⟩
  unfold X8_chain_14 J7_fill_53178_20
  rw [show (0 : Int32) = nI 0 from rfl, a1]
  simp only [Option.bind_some]
  rw [h1.1]
  exact b1
/-- the class's build of the slips -/
theorem c_slips {N : Nat} {D : Dt} {S : aSt} (hN : 3000 ≤ N) (ok : okD D) (hD : lgC S D) : ∃ T, X8_build_14 N S = some T ∧ slC T (SL D) ∧ chC T D := by
  obtain ⟨T1, a1, a2, a3⟩ := c_build ok hN hD (SL_len ok)
  obtain ⟨T2, b1, b2, b3⟩ := c_chain hN ok a2
  refine ⟨T2, ?_, rows_fr a2 b3 (by decide), b2⟩
  rw [a1]
  unfold X8_build_14_b280
  rw [b1]
  rfl
