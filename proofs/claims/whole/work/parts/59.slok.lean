/-! slips: what all of them are; how many of one change -/
theorem pc_mem' {k p s w : Nat} {c : Int32} {x : Sl} (h : x ∈ pc k p s c w) : x = ⟨k, p, s, c, w⟩ ∧ w ≠ 0 := by
  unfold pc at h
  split at h
  · simp at h
  · exact ⟨by simpa using h, by assumption⟩
theorem ps_mem' {D : Dt} {k j s w : Nat} {x : Sl} (h : x ∈ ps D k j s w) : x = ⟨k, j, s, chg D j s, w⟩ ∧ s ≠ 0 ∧ w ≠ 0 := by
  unfold ps at h
  split at h
  · simp at h
  · exact ⟨(pc_mem' h).1, by assumption, (pc_mem' h).2⟩
theorem sub_inj {a b c : Int32} (h : a - c = b - c) : a = b := by
  rw [Int32.sub_eq_add_neg, Int32.sub_eq_add_neg] at h
  exact (Int32.add_left_inj _).mp h
theorem sub_inj' {a b c : Int32} (h : c - a = c - b) : a = b := by
  rw [Int32.sub_eq_add_neg, Int32.sub_eq_add_neg] at h
  exact Int32.neg_inj.mp ((Int32.add_right_inj _).mp h)
theorem chg_inj {D : Dt} {j s t : Nat} (hs : s < 2 ^ 31) (ht : t < 2 ^ 31) (h : chg D j s = chg D j t) : s = t := by
  unfold chg at h
  split at h
  · exact (nI_eq hs ht).mp (sub_inj h)
  · exact (nI_eq hs ht).mp (sub_inj' h)
theorem chg_ne {D : Dt} {j s : Nat} (ok : okD D) (hj : j < D.1) (hs : s < 2 ^ 31) (h : s ≠ D.sm j) : chg D j s ≠ 0 := by
  have hsm := ok.sm hj
  intro h0
  apply h
  refine chg_inj (D := D) (j := j) hs (by omega) ?_
  rw [h0]
  unfold chg
  rw [hsm.1, Int32.sub_self, ite_self]
def okT (D : Dt) (x : Sl) : Prop := okS x ∧ 1 ≤ x.2.2.2.2 ∧ x.2.2.2.2 ≤ 9801 ∧ x.2.2.2.1 ≠ 0 ∧ (x.1 < 5 → x.2.1 < D.1) ∧ x.1 ≤ 6 ∧ (x.1 = 6 → x.2.1 < 6)
theorem ps_okT {D : Dt} {k j s w : Nat} (ok : okD D) (hj : j < D.1) (hk : k < 5) (hs : s < 2 ^ 31) (hw : w ≤ 9801) (hn : s = 0 ∨ s ≠ D.sm j) {x : Sl} (h : x ∈ ps D k j s w) : okT D x := by
  have he := ok.1
  obtain ⟨h1, h2, h3⟩ := ps_mem' h
  rw [h1]
  exact ⟨⟨show k < 2 ^ 31 by omega, show j < 2 ^ 31 by omega, hs, show w < 2 ^ 31 by omega⟩, show 1 ≤ w by omega, hw, chg_ne ok hj hs (hn.resolve_left h2), fun _ => hj, show k ≤ 6 by omega, fun z => by have : k = 6 := z; omega⟩
theorem outBy_ne {D : Dt} {j : Nat} (ok : okD D) (hj : j < D.1) : ∃ z : Int, outBy D.2.1 j = Int32.ofInt z ∧ z ≠ 0 ∧ -999999 ≤ z ∧ z ≤ 999999 := by
  have hsm := ok.sm hj
  unfold outBy
  rw [hsm.1]
  split
  · exact ⟨(D.sm j : Int), rfl, by omega, by omega, by omega⟩
  · exact ⟨-(D.sm j : Int), by rw [Int32.ofInt_neg]; rfl, by omega, by omega, by omega⟩
theorem ofInt_ne0 {z : Int} (h : z ≠ 0) (h1 : -(2 ^ 31) ≤ z) (h2 : z < 2 ^ 31) : Int32.ofInt z ≠ 0 := by
  intro h0
  have := congrArg Int32.toInt h0
  rw [Int32.toInt_ofInt_of_le h1 h2] at this
  exact h this
theorem fl_mem {g : Nat → List Sl} {m : Nat} {x : Sl} (h : x ∈ fl g m) : ∃ j, j < m ∧ x ∈ g j := by
  unfold fl at h
  obtain ⟨j, hj, hx⟩ := List.mem_flatMap.mp h
  rw [List.mem_range'_1] at hj
  exact ⟨j, by omega, hx⟩
theorem gK_c (D : Dt) (p k : Nat) {x : Sl} (hk : k < 6) (ok : okD D) (hp : p < 6) (h : x ∈ gK D p k) : okT D x := by
  obtain ⟨hca, hca2⟩ := m_99 ok.2.2.2.2.2
  have h10 := m_p10b (show k < 7 by omega)
  have key : ∀ c : Int32, c ≠ 0 → x ∈ pc 6 p k c D.2.2.2.2.2.toNatClampNeg → okT D x := fun c hc h => by
    obtain ⟨h1, h2⟩ := pc_mem' h
    rw [h1]
    exact ⟨⟨(by decide : 6 < 2 ^ 31), show p < 2 ^ 31 by omega, show k < 2 ^ 31 by omega, show D.2.2.2.2.2.toNatClampNeg < 2 ^ 31 by omega⟩, show 1 ≤ D.2.2.2.2.2.toNatClampNeg by omega, show D.2.2.2.2.2.toNatClampNeg ≤ 9801 by omega, hc, fun z => by have : (6 : Nat) < 5 := z; omega, (by decide : 6 ≤ 6), fun _ => hp⟩
  unfold gK at h
  rcases List.mem_append.mp h with h | h
  · refine key _ ?_ h
    rw [← zI_nat, ← Int32.ofInt_neg]
    exact ofInt_ne0 (by omega) (by omega) (by omega)
  · exact key _ (ofInt_ne0 (z := ((10 ^ k : Nat) : Int)) (by omega) (by omega) (by omega)) h
theorem SL_ok {D : Dt} (ok : okD D) {x : Sl} (h : x ∈ SL D) : okT D x := by
  have he := ok.1
  unfold SL at h
  simp only [List.mem_append] at h
  rcases h with h | h | h | h | h | h | h
  · obtain ⟨j, hj, h⟩ := fl_mem h
    have hn := (ok.sm hj).2.2
    have hr := nd_range (D.sm j)
    have ho := (ok.od (k := 0) hj (by omega)).2
    have key : ∀ k, k < 5 → x ∈ ps D 0 j (tnN (D.sm j) k) (D.od j 0) → okT D x := fun k hk h => by
      refine ps_okT ok hj (by omega) (tnN_lt hn (by omega)) (by omega) ?_ h
      have := (tnN_b (n := D.sm j) (show k < 6 by omega)).2.2
      have := m_p10b (show k < 7 by omega)
      omega
    have hd : ∀ m, m ≤ 5 → x ∈ dT D j m → okT D x := by
      intro m
      induction m with
      | zero => intro _ h; simp [dT] at h
      | succ m ih =>
        intro hm h
        rw [dT] at h
        rcases List.mem_append.mp h with h | h
        · unfold pD at h; split at h
          · exact key m (by omega) h
          · simp at h
        · exact ih (by omega) h
    unfold gT at h
    rcases List.mem_append.mp h with h | h
    · exact hd _ (by omega) h
    · unfold uT at h
      obtain ⟨k, hk, h⟩ := List.mem_flatMap.mp h
      rw [List.mem_range'_1] at hk
      unfold pU at h; split at h
      · exact key k (by omega) h
      · simp at h
  · obtain ⟨j, hj, h⟩ := fl_mem h
    have hn := (ok.sm hj).2.2
    have hr := nd_range (D.sm j)
    have ho := (ok.od (k := 1) hj (by omega)).2
    have key : ∀ k i, k < 6 → i < 10 → i ≠ dg (D.sm j) k → x ∈ pF D j k i → okT D x := fun k i hk hi hne h => by
      have hrd := (ok.rd hi (dg_lt (D.sm j) k)).2
      have hw : D.od j 1 * D.rd i (dg (D.sm j) k) ≤ 99 * 99 := Nat.mul_le_mul ho hrd
      unfold pF at h
      refine ps_okT ok hj (by omega) (figN_lt hn (by omega) hi) (by omega) (Or.inr ?_) h
      have hb := figN_b (n := D.sm j) (k := k) hk hi
      have := m_p10b (show k < 7 by omega)
      rcases Nat.lt_or_gt_of_ne hne with c | c
      · have := hb.2.2.1 c; omega
      · have := hb.2.2.2 c; omega
    have low : ∀ k, k < 6 → x ∈ lF D j k → okT D x := fun k hk h => by
      have hd := dg_lt (D.sm j) k
      obtain ⟨i, i1, i2, i3⟩ := rF_mem h
      exact key k i hk (by omega) (by omega) i3
    have high : ∀ k, k < 6 → x ∈ hF D j k → okT D x := fun k hk h => by
      have hd := dg_lt (D.sm j) k
      obtain ⟨i, i1, i2, i3⟩ := rF_mem h
      exact key k i hk (by omega) (by omega) i3
    have hd : ∀ m, m ≤ 6 → x ∈ dF D j m → okT D x := by
      intro m
      induction m with
      | zero => intro _ h; simp [dF] at h
      | succ m ih =>
        intro hm h
        rw [dF] at h
        rcases List.mem_append.mp h with h | h
        · exact low m (by omega) h
        · exact ih (by omega) h
    unfold gF at h
    rcases List.mem_append.mp h with h | h
    · exact hd _ (by omega) h
    · unfold uF at h
      obtain ⟨k, hk, h⟩ := List.mem_flatMap.mp h
      rw [List.mem_range'_1] at hk
      exact high k (by omega) h
  · obtain ⟨j, hj, h⟩ := fl_mem h
    have hsm := ok.sm hj
    have ho := (ok.od (k := 2) hj (by omega)).2
    unfold gN at h
    rcases List.mem_append.mp h with h | h
    · exact ps_okT ok hj (by omega) (by unfold shN; split <;> omega) (by omega) (by unfold shN; split <;> omega) h
    · exact ps_okT ok hj (by omega) (by unfold loN; split <;> omega) (by omega) (by unfold loN; split <;> omega) h
  · obtain ⟨j, hj, h⟩ := fl_mem h
    have hsm := ok.sm hj
    have ho := (ok.od (k := 3) hj (by omega)).2
    obtain ⟨z, z1, z2, z3, z4⟩ := outBy_ne ok hj
    obtain ⟨h1, h2⟩ := pc_mem' h
    rw [h1]
    refine ⟨⟨(by decide : 3 < 2 ^ 31), show j < 2 ^ 31 by omega, show D.sm j < 2 ^ 31 by omega, show D.od j 3 < 2 ^ 31 by omega⟩, show 1 ≤ D.od j 3 by omega, show D.od j 3 ≤ 9801 by omega, ?_, fun _ => hj, (by decide : 3 ≤ 6), fun z => by have : (3 : Nat) = 6 := z; omega⟩
    show (-2 : Int32) * outBy D.2.1 j ≠ 0
    rw [z1, show (-2 : Int32) = Int32.ofInt (-2) from rfl, ← Int32.ofInt_mul]
    exact ofInt_ne0 (by omega) (by omega) (by omega)
  · obtain ⟨j, hj, h⟩ := fl_mem h
    have hsm := ok.sm hj
    have ho := (ok.od (k := 4) hj (by omega)).2
    obtain ⟨z, z1, z2, z3, z4⟩ := outBy_ne ok hj
    unfold gW at h
    split at h
    · obtain ⟨h1, h2⟩ := pc_mem' h
      rw [h1]
      refine ⟨⟨(by decide : 4 < 2 ^ 31), show j < 2 ^ 31 by omega, (by decide : 0 < 2 ^ 31), show D.od j 4 < 2 ^ 31 by omega⟩, show 1 ≤ D.od j 4 by omega, show D.od j 4 ≤ 9801 by omega, ?_, fun _ => hj, (by decide : 4 ≤ 6), fun z => by have : (4 : Nat) = 6 := z; omega⟩
      show -outBy D.2.1 j ≠ 0
      rw [z1, ← Int32.ofInt_neg]
      exact ofInt_ne0 (by omega) (by omega) (by omega)
    · simp at h
  · obtain ⟨hmi, hmi2⟩ := m_99 ok.2.2.2.2.1
    obtain ⟨n, hn, hab, h0⟩ := oAll_ab ok
    unfold gM at h
    split at h
    · simp at h
    · rename_i hc
      obtain ⟨h1, h2⟩ := pc_mem' h
      rw [h1]
      have hq : (if oAll D ≤ 0 then 0 else 1) < 2 := by split <;> omega
      refine ⟨⟨(by decide : 5 < 2 ^ 31), show (if oAll D ≤ 0 then 0 else 1) < 2 ^ 31 by omega, show (ab (oAll D)).toNatClampNeg < 2 ^ 31 by rw [hab, nI_clamp (by omega)]; omega, show D.2.2.2.2.1.toNatClampNeg < 2 ^ 31 by omega⟩, show 1 ≤ D.2.2.2.2.1.toNatClampNeg by omega, show D.2.2.2.2.1.toNatClampNeg ≤ 9801 by omega, ?_, fun z => by have : (5 : Nat) < 5 := z; omega, (by decide : 5 ≤ 6), fun z => by have : (5 : Nat) = 6 := z; omega⟩
      show -oAll D ≠ 0
      intro hz
      have : oAll D = 0 := by rw [← @Int32.neg_neg (oAll D), hz]; rfl
      rw [this] at hc
      exact hc (Or.inl (by decide))
  · obtain ⟨p, hp, h⟩ := fl_mem h
    unfold gC at h
    split at h
    · obtain ⟨k, hk, h⟩ := List.mem_flatMap.mp h
      rw [List.mem_range'_1] at hk
      exact gK_c D p k (by omega) ok hp h
    · simp at h
