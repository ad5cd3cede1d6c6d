/-! slips: how many -/
theorem ps_len (D : Dt) (k j s w : Nat) : (ps D k j s w).length ≤ 1 := by
  unfold ps
  split
  · simp
  · exact pc_len ..
theorem uT_c (D : Dt) (j m : Nat) : uT D j 0 (m + 1) = uT D j 0 m ++ pU D j m := by
  unfold uT; rw [List.range'_1_concat, List.flatMap_append]; simp
theorem uF_c (D : Dt) (j m : Nat) : uF D j 0 (m + 1) = uF D j 0 m ++ hF D j m := by
  unfold uF; rw [List.range'_1_concat, List.flatMap_append]; simp
theorem fl_c (g : Nat → List Sl) (m : Nat) : fl g (m + 1) = fl g m ++ g m := by
  unfold fl; rw [List.range'_1_concat, List.flatMap_append]; simp
theorem rF_c (D : Dt) (j k x m : Nat) : rF D j k x (m + 1) = rF D j k x m ++ pF D j k (x + m) := by
  unfold rF; rw [List.range'_1_concat, List.flatMap_append]; simp
theorem fl_len {g : Nat → List Sl} {c : Nat} : ∀ {m : Nat}, (∀ j, j < m → (g j).length ≤ c) → (fl g m).length ≤ c * m
  | 0, _ => by simp [fl]
  | m + 1, h => by
    rw [fl_c, List.length_append]
    have h1 := fl_len (m := m) (fun j hj => h j (by omega))
    have h2 := h m (by omega)
    rw [Nat.mul_succ]; omega
theorem gT_len {D : Dt} {j : Nat} : ∀ m, (dT D j m).length + (uT D j 0 m).length ≤ m
  | 0 => by simp [dT, uT]
  | m + 1 => by
    rw [dT, uT_c]
    have h := gT_len (D := D) (j := j) m
    have h2 : (pD D j m).length + (pU D j m).length ≤ 1 := by
      have h3 := ps_len D 0 j (tnN (D.sm j) m) (D.od j 0)
      unfold pD pU
      by_cases c : tnN (D.sm j) m < D.sm j
      · rw [if_pos c, if_neg (by omega)]; simpa using h3
      · rw [if_neg c]; simp only [List.length_nil]; split
        · simpa using h3
        · simp
    simp only [List.length_append]
    omega
theorem rF_len (D : Dt) (j k x : Nat) : ∀ m, (rF D j k x m).length ≤ m
  | 0 => by simp [rF]
  | m + 1 => by
    rw [rF_c, List.length_append]
    have := rF_len D j k x m
    have h2 : (pF D j k (x + m)).length ≤ 1 := ps_len ..
    omega
theorem dg_first {n : Nat} (hn : n ≤ 999999) (h1 : 1 ≤ n) : 1 ≤ dg n (nd n - 1) := by
  unfold dg nd
  split
  · simp; omega
  · split
    · simp; omega
    · split
      · simp; omega
      · split
        · simp; omega
        · split
          · simp; omega
          · simp; omega
theorem gF_len {D : Dt} {j : Nat} (hn : D.sm j ≤ 999999) (h1 : 1 ≤ D.sm j) : ∀ m, m ≤ nd (D.sm j) → (dF D j m).length + (uF D j 0 m).length + (if m = nd (D.sm j) then 1 else 0) ≤ 9 * m
  | 0, h => by
    have := (nd_range (D.sm j)).1
    rw [if_neg (by omega)]; simp [dF, uF]
  | m + 1, h => by
    have ih := gF_len (D := D) (j := j) hn h1 m (by omega)
    rw [if_neg (by omega)] at ih
    have hd := dg_lt (D.sm j) m
    have a1 : (lF D j m).length ≤ dg (D.sm j) m - x0 (D.sm j) m := rF_len ..
    have a2 : (hF D j m).length ≤ 9 - dg (D.sm j) m := rF_len ..
    rw [dF, uF_c]
    simp only [List.length_append]
    have a3 : (if m + 1 = nd (D.sm j) then 1 else 0) + (dg (D.sm j) m - x0 (D.sm j) m) ≤ dg (D.sm j) m := by
      unfold x0
      by_cases c : m + 1 = nd (D.sm j)
      · have := dg_first hn h1
        rw [show nd (D.sm j) - 1 = m by omega] at this
        rw [if_pos c]; omega
      · rw [if_neg c]; omega
    omega
theorem SL_len {D : Dt} (ok : okD D) : (SL D).length ≤ 1921 := by
  have he := ok.1
  have l1 : (fl (gT D) D.1).length ≤ 5 * D.1 := fl_len (fun j hj => by
    have := gT_len (D := D) (j := j) (nd (D.sm j) - 1)
    have := nd_range (D.sm j)
    unfold gT; rw [List.length_append]; omega)
  have l2 : (fl (gF D) D.1).length ≤ 53 * D.1 := fl_len (fun j hj => by
    have h := ok.sm hj
    have := gF_len (D := D) (j := j) h.2.2 h.2.1 (nd (D.sm j)) (Nat.le_refl _)
    have := nd_range (D.sm j)
    rw [if_pos rfl] at *
    unfold gF; rw [List.length_append]; omega)
  have l3 : (fl (gN D) D.1).length ≤ 2 * D.1 := fl_len (fun j hj => by
    have h1 := ps_len D 2 j (shN (D.sm j)) (D.od j 2)
    have h2 := ps_len D 2 j (loN (D.sm j)) (D.od j 2)
    unfold gN; rw [List.length_append]; omega)
  have l4 : (fl (gS D) D.1).length ≤ 1 * D.1 := fl_len (fun j hj => pc_len ..)
  have l5 : (fl (gW D) D.1).length ≤ 1 * D.1 := fl_len (fun j hj => by
    unfold gW
    split
    · exact pc_len ..
    · simp)
  have l6 : (gM D).length ≤ 1 := by
    unfold gM
    split
    · simp
    · exact pc_len ..
  have l7 : (fl (gC D) 6).length ≤ 10 * 6 := fl_len (fun j hj => by
    unfold gC; split
    · have : ∀ k, (gK D j k).length ≤ 2 := fun k => by
        unfold gK; rw [List.length_append]
        have h1 := pc_len 6 j k (-(nI (10 ^ k))) D.2.2.2.2.2.toNatClampNeg
        have h2 := pc_len 6 j k (nI (10 ^ k)) D.2.2.2.2.2.toNatClampNeg
        omega
      have a1 := this 1; have a2 := this 2; have a3 := this 3; have a4 := this 4; have a5 := this 5
      rw [show (List.range' 1 5).flatMap (gK D j) = gK D j 1 ++ (gK D j 2 ++ (gK D j 3 ++ (gK D j 4 ++ (gK D j 5 ++ [])))) from rfl]
      simp only [List.length_append, List.length_nil]
      omega
    · simp)
  unfold SL
  simp only [List.length_append]
  omega
