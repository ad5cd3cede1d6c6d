/-! slips: the reference lays figures -/
theorem nd_ge {n k : Nat} (hk : k + 1 ≤ nd n) : k = 0 ∨ 10 ^ k ≤ n := by
  have hr := nd_range n
  have hk6 : k < 6 := by omega
  unfold nd at hk
  rcases (show k = 0 ∨ k = 1 ∨ k = 2 ∨ k = 3 ∨ k = 4 ∨ k = 5 by omega) with rfl | rfl | rfl | rfl | rfl | rfl
  · exact Or.inl rfl
  all_goals
    right
    simp only [Nat.reducePow]
    repeat' split at hk
    all_goals omega
theorem figN_pos {n k x : Nat} (hn1 : 1 ≤ n) (hn : n ≤ 999999) (hk : k < nd n) (hx : x0 n k ≤ x) : figN n k x ≠ 0 := by
  have hr := nd_range n
  have hp := m_p10b (show k < 7 by omega)
  have h1 := dg_ge n k
  unfold figN
  unfold x0 at hx
  by_cases c : k + 1 = nd n
  · rw [if_pos c] at hx
    have : 1 * 10 ^ k ≤ x * 10 ^ k := Nat.mul_le_mul_right _ hx
    omega
  · have h2 : 10 ^ (k + 1) ≤ n := (nd_ge (k := k + 1) (by omega)).resolve_left (by omega)
    rw [Nat.pow_succ] at h2
    have h3 : 10 ≤ n / 10 ^ k := (Nat.le_div_iff_mul_le (by omega)).mpr (by omega)
    have h4 : dg n k + 10 ≤ n / 10 ^ k := by unfold dg; omega
    have h5 : (dg n k + 10) * 10 ^ k ≤ n := Nat.le_trans (Nat.mul_le_mul_right _ h4) (Nat.div_mul_le_self n (10 ^ k))
    rw [Nat.add_mul] at h5
    omega
theorem figN_b {n k x : Nat} (hk : k < 6) (hx : x < 10) : (n < figN n k x + 10 * 10 ^ k) ∧ figN n k x < n + 10 * 10 ^ k ∧ (x < dg n k → figN n k x + 10 ^ k ≤ n) ∧ (dg n k < x → n + 10 ^ k ≤ figN n k x) := by
  have hp := m_p10b (show k < 7 by omega)
  have h1 := dg_ge n k
  have h4 := dg_lt n k
  unfold figN
  generalize dg n k = y at *
  generalize 10 ^ k = q at *
  have hy9 : y * q ≤ 9 * q := Nat.mul_le_mul_right _ (by omega)
  have hx9 : x * q ≤ 9 * q := Nat.mul_le_mul_right _ (by omega)
  refine ⟨by omega, by omega, fun h => ?_, fun h => ?_⟩
  · have : (x + 1) * q ≤ y * q := Nat.mul_le_mul_right _ h
    rw [Nat.add_mul, Nat.one_mul] at this; omega
  · have : (y + 1) * q ≤ x * q := Nat.mul_le_mul_right _ h
    rw [Nat.add_mul, Nat.one_mul] at this; omega
theorem figN_mono {n k x z : Nat} (h : x < z) : figN n k x ≤ figN n k z ∧ (k < 6 → figN n k x < figN n k z) := by
  have h1 := dg_ge n k
  have hp : 0 < 10 ^ k := Nat.pow_pos (by decide)
  unfold figN
  generalize 10 ^ k = q at *
  have h2 : (x + 1) * q ≤ z * q := Nat.mul_le_mul_right _ h
  rw [Nat.add_mul, Nat.one_mul] at h2
  exact ⟨by omega, fun hk => by omega⟩
theorem rF_mem {D : Dt} {j k : Nat} : ∀ {m a : Nat} {x : Sl}, x ∈ rF D j k a m → ∃ i, a ≤ i ∧ i < a + m ∧ x ∈ pF D j k i
  | 0, a, x, h => by simp [rF] at h
  | m + 1, a, x, h => by
    rw [rF_s] at h
    rcases List.mem_append.mp h with h | h
    · exact ⟨a, by omega, by omega, h⟩
    · obtain ⟨i, h1, h2, h3⟩ := rF_mem h
      exact ⟨i, by omega, by omega, h3⟩
theorem pF_ok {D : Dt} {j k i : Nat} (ok : okD D) (hj : j < D.1) (hk : k < 6) (hi : i < 10) {x : Sl} (h : x ∈ pF D j k i) : okS x ∧ x.1 = 1 ∧ x.2.1 = j ∧ x.2.2.1 = figN (D.sm j) k i := by
  have hn := (ok.sm hj).2.2
  have ho := (ok.od (k := 1) hj (by omega)).2
  have he := ok.1
  have hr := (ok.rd hi (dg_lt (D.sm j) k)).2
  have hw : D.od j 1 * D.rd i (dg (D.sm j) k) ≤ 99 * 99 := Nat.mul_le_mul ho hr
  unfold pF at h
  rw [ps_mem h]
  exact ⟨⟨(by decide : 1 < 2 ^ 31), (show j < 2 ^ 31 by omega), figN_lt hn (by omega) hi, (show D.od j 1 * D.rd i (dg (D.sm j) k) < 2 ^ 31 by omega)⟩, rfl, rfl, rfl⟩
theorem gF_b {D : Dt} {j : Nat} (ok : okD D) (hj : j < D.1) : ∀ {m : Nat}, m ≤ nd (D.sm j) → ∀ x ∈ dF D j m ++ uF D j 0 m, okS x ∧ x.1 = 1 ∧ x.2.1 = j ∧ D.sm j < x.2.2.1 + 10 ^ m ∧ x.2.2.1 < D.sm j + 10 ^ m := by
  have hn := (ok.sm hj).2.2
  have hr := nd_range (D.sm j)
  intro m
  induction m with
  | zero => intro _ x hx; simp [dF, uF] at hx
  | succ m ih =>
    intro hm x hx
    have hp := m_p10b (show m < 7 by omega)
    have hd := dg_lt (D.sm j) m
    have e10 : 10 ^ (m + 1) = 10 * 10 ^ m := by rw [Nat.pow_succ, Nat.mul_comm]
    rw [e10]
    rw [dF, uF_c] at hx
    simp only [List.mem_append] at hx
    have old : x ∈ dF D j m ++ uF D j 0 m → okS x ∧ x.1 = 1 ∧ x.2.1 = j ∧ D.sm j < x.2.2.1 + 10 * 10 ^ m ∧ x.2.2.1 < D.sm j + 10 * 10 ^ m := fun h => by
      obtain ⟨h1, h2, h3, h4, h5⟩ := ih (by omega) x h
      exact ⟨h1, h2, h3, by omega, by omega⟩
    have new : ∀ i, i < 10 → x ∈ pF D j m i → okS x ∧ x.1 = 1 ∧ x.2.1 = j ∧ D.sm j < x.2.2.1 + 10 * 10 ^ m ∧ x.2.2.1 < D.sm j + 10 * 10 ^ m := fun i hi h => by
      obtain ⟨h1, h2, h3, h4⟩ := pF_ok ok hj (by omega) hi h
      have hb := figN_b (n := D.sm j) (k := m) (by omega) hi
      exact ⟨h1, h2, h3, by omega, by omega⟩
    rcases hx with (h | h) | (h | h)
    · obtain ⟨i, _, h2, h3⟩ := rF_mem h
      exact new i (by omega) h3
    · exact old (List.mem_append_left _ h)
    · exact old (List.mem_append_right _ h)
    · obtain ⟨i, _, h2, h3⟩ := rF_mem h
      exact new i (by omega) h3
def mid (D : Dt) (j k x : Nat) : List Sl := rF D j k (x0 (D.sm j) k) (min x (dg (D.sm j) k) - x0 (D.sm j) k) ++ ((dF D j k ++ uF D j 0 k) ++ rF D j k (dg (D.sm j) k + 1) (x - (dg (D.sm j) k + 1)))
theorem r_fig {N j k x : Nat} {D : Dt} {L : List Sl} {S : aSt} (hN : 3000 ≤ N) (ok : okD D) (hj : j < D.1) (hL : bef 1 j L) (hl : L.length ≤ 1921) (hk : k < nd (D.sm j)) (hx : x < 10) (hx0 : x0 (D.sm j) k ≤ x) (hxy : x ≠ dg (D.sm j) k) (hS : slR S (L ++ mid D j k x)) (hD : lgR S D) : ∃ T, X11_add_42 N (1 : Int32) (nI j) (nI (figN (D.sm j) k x)) (chg D j (figN (D.sm j) k x)) (nI (D.od j 1 * D.rd x (dg (D.sm j) k))) S = some T ∧ slR T (L ++ mid D j k (x + 1)) ∧ lgR T D := by
  have hsm := ok.sm hj
  have hn := hsm.2.2
  have hr := nd_range (D.sm j)
  have he := ok.1
  have hd := dg_lt (D.sm j) k
  have ho := (ok.od (k := 1) hj (by omega)).2
  have hrd := (ok.rd hx hd).2
  have hw : D.od j 1 * D.rd x (dg (D.sm j) k) ≤ 99 * 99 := Nat.mul_le_mul ho hrd
  have hf0 := figN_pos hsm.2.1 hn hk hx0
  have hflt := figN_lt (x := x) hn (show k < 7 by omega) hx
  have hb := figN_b (n := D.sm j) (k := k) (by omega) hx
  have e1 : pF D j k x = pc 1 j (figN (D.sm j) k x) (chg D j (figN (D.sm j) k x)) (D.od j 1 * D.rd x (dg (D.sm j) k)) := by unfold pF ps; rw [if_neg hf0]
  have hlen := gF_len (D := D) (j := j) hn hsm.2.1 k (by omega)
  have hgb := gF_b ok hj (show k ≤ nd (D.sm j) by omega)
  have hl1 := rF_len D j k (x0 (D.sm j) k) (min x (dg (D.sm j) k) - x0 (D.sm j) k)
  have hl2 := rF_len D j k (dg (D.sm j) k + 1) (x - (dg (D.sm j) k + 1))
  have low : ∀ q a, a + q ≤ 10 → a + q ≤ x → ∀ z ∈ rF D j k a q, okS z ∧ ¬ (1 ≠ 6 ∧ z.1 = 1 ∧ z.2.1 = j ∧ figN (D.sm j) k x < z.2.2.1) := by
    intro q a h0 hq z hz
    obtain ⟨i, i1, i2, i3⟩ := rF_mem hz
    obtain ⟨p1, p2, p3, p4⟩ := pF_ok ok hj (by omega) (by omega) i3
    have := (figN_mono (n := D.sm j) (k := k) (show i < x by omega)).1
    exact ⟨p1, fun h => by omega⟩
  have base : ∀ z ∈ L, okS z ∧ ¬ (1 ≠ 6 ∧ z.1 = 1 ∧ z.2.1 = j ∧ figN (D.sm j) k x < z.2.2.1) := fun z hz => ⟨(hL z hz).1, fun h => by have := (hL z hz).2; omega⟩
  rcases Nat.lt_or_gt_of_ne hxy with c | c
  · have m1 : mid D j k x = rF D j k (x0 (D.sm j) k) (x - x0 (D.sm j) k) ++ (dF D j k ++ uF D j 0 k) := by
      unfold mid
      rw [Nat.min_eq_left (by omega), show x - (dg (D.sm j) k + 1) = 0 by omega]
      simp [rF]
    have m2 : mid D j k (x + 1) = rF D j k (x0 (D.sm j) k) (x - x0 (D.sm j) k) ++ (pF D j k x ++ (dF D j k ++ uF D j 0 k)) := by
      unfold mid
      rw [Nat.min_eq_left (by omega), show x + 1 - (dg (D.sm j) k + 1) = 0 by omega, show x + 1 - x0 (D.sm j) k = (x - x0 (D.sm j) k) + 1 by omega, rF_c, show x0 (D.sm j) k + (x - x0 (D.sm j) k) = x by omega]
      simp [rF]
    rw [m1] at hS
    rw [m2, e1]
    rw [← List.append_assoc] at hS ⊢
    rw [Nat.min_eq_left (by omega)] at hl1
    refine r_add (k := 1) hN (by omega) (by omega) (by omega) hflt (fun z hz => ?_) (fun z hz => ?_) hS hD ?_
    · rcases List.mem_append.mp hz with hz | hz
      · exact base z hz
      · exact low _ _ (by omega) (by omega) z hz
    · obtain ⟨h1, h2, h3, h4, h5⟩ := hgb z hz
      have := hb.2.2.1 c
      exact ⟨h1, by omega, h2, h3, by omega⟩
    · simp only [List.length_append] at hl1 ⊢
      omega
  · have m2 : mid D j k (x + 1) = mid D j k x ++ pF D j k x := by
      unfold mid
      rw [Nat.min_eq_right (by omega), Nat.min_eq_right (by omega), show x + 1 - (dg (D.sm j) k + 1) = (x - (dg (D.sm j) k + 1)) + 1 by omega, rF_c, show dg (D.sm j) k + 1 + (x - (dg (D.sm j) k + 1)) = x by omega]
      simp only [List.append_assoc]
    rw [m2, e1, ← List.append_assoc]
    have := r_add (k := 1) (A := L ++ mid D j k x) (B := []) (D := D) (p := j) (s := figN (D.sm j) k x) (c := chg D j (figN (D.sm j) k x)) (w := D.od j 1 * D.rd x (dg (D.sm j) k)) (S := S) hN (by omega) (by omega) (by omega) hflt (fun z hz => ?_) (fun z hz => by simp at hz) (by rw [List.append_nil]; exact hS) hD ?_
    · simp only [List.append_nil] at this
      exact this
    · rcases List.mem_append.mp hz with hz | hz
      · exact base z hz
      · unfold mid at hz
        rcases List.mem_append.mp hz with hz | hz
        · exact low _ _ (by omega) (by omega) z hz
        · rcases List.mem_append.mp hz with hz | hz
          · obtain ⟨h1, h2, h3, h4, h5⟩ := hgb z hz
            have := hb.2.2.2 c
            exact ⟨h1, fun h => by omega⟩
          · exact low _ _ (by omega) (by omega) z hz
    · unfold mid
      simp only [List.length_append, List.length_nil] at hl1 hl2 ⊢
      omega
