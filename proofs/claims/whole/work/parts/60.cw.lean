/-! slips: how many have one change -/
def cw (w : Int32) (L : List Sl) : Nat := (L.filter (fun x => decide (x.2.2.2.1 = w))).length
def cs (s : Nat) (L : List Sl) : Nat := (L.filter (fun x => decide (x.2.2.1 = s))).length
theorem cw_app (w : Int32) (A B : List Sl) : cw w (A ++ B) = cw w A + cw w B := by unfold cw; rw [List.filter_append, List.length_append]
theorem cs_app (s : Nat) (A B : List Sl) : cs s (A ++ B) = cs s A + cs s B := by unfold cs; rw [List.filter_append, List.length_append]
theorem cw_le (w : Int32) (L : List Sl) : cw w L ≤ L.length := List.length_filter_le ..
theorem cs_le (s : Nat) (L : List Sl) : cs s L ≤ L.length := List.length_filter_le ..
theorem cs_0 {s : Nat} {L : List Sl} (h : ∀ x ∈ L, x.2.2.1 ≠ s) : cs s L = 0 := by
  unfold cs
  rw [List.filter_eq_nil_iff.mpr (fun x hx => by simpa using h x hx)]; rfl
theorem cw_fl {w : Int32} {g : Nat → List Sl} : ∀ {m : Nat}, (∀ j, j < m → cw w (g j) ≤ 1) → cw w (fl g m) ≤ m
  | 0, _ => by simp [fl, cw]
  | m + 1, h => by
    rw [fl_c, cw_app]
    have h1 := cw_fl (m := m) (fun j hj => h j (by omega))
    have h2 := h m (by omega)
    omega
theorem cw_cs {D : Dt} {w : Int32} {j : Nat} {L : List Sl} (h : ∀ x ∈ L, okS x ∧ x.2.2.2.1 = chg D j x.2.2.1) (h1 : ∀ s, cs s L ≤ 1) : cw w L ≤ 1 := by
  by_cases c : ∃ x, x ∈ L ∧ x.2.2.2.1 = w
  · obtain ⟨x, hx, hc⟩ := c
    refine Nat.le_trans ?_ (h1 x.2.2.1)
    unfold cw cs
    rw [List.filter_congr (p := fun y : Sl => decide (y.2.2.2.1 = w)) (q := fun y : Sl => decide (y.2.2.2.1 = w) && decide (y.2.2.1 = x.2.2.1))]
    · rw [← List.filter_filter]
      exact List.length_filter_le ..
    · intro y hy
      by_cases c2 : y.2.2.2.1 = w
      · have : y.2.2.1 = x.2.2.1 := chg_inj (D := D) (j := j) (h y hy).1.2.2.1 (h x hx).1.2.2.1 (by rw [← (h y hy).2, ← (h x hx).2, hc, c2])
        simp [c2, this]
      · simp [c2]
  · unfold cw
    rw [List.filter_eq_nil_iff.mpr (fun x hx => by simp only [decide_eq_true_eq]; exact fun z => c ⟨x, hx, z⟩)]
    simp
theorem gT_c {D : Dt} {j : Nat} : ∀ (m : Nat) (x : Sl), x ∈ dT D j m ++ uT D j 0 m → x.2.2.2.1 = chg D j x.2.2.1
  | 0, x, h => by simp [dT, uT] at h
  | m + 1, x, h => by
    rw [dT, uT_c] at h
    simp only [List.mem_append] at h
    have key : x ∈ ps D 0 j (tnN (D.sm j) m) (D.od j 0) → x.2.2.2.1 = chg D j x.2.2.1 := fun h => by rw [ps_mem h]
    rcases h with (h | h) | (h | h)
    · unfold pD at h; split at h
      · exact key h
      · simp at h
    · exact gT_c m x (List.mem_append_left _ h)
    · exact gT_c m x (List.mem_append_right _ h)
    · unfold pU at h; split at h
      · exact key h
      · simp at h
theorem gT_cs {D : Dt} {j : Nat} (ok : okD D) (hj : j < D.1) (s : Nat) : ∀ m, m ≤ 5 → cs s (dT D j m ++ uT D j 0 m) ≤ 1
  | 0, _ => by simp [dT, uT, cs]
  | m + 1, hm => by
    have ih := gT_cs ok hj s m (by omega)
    have hb := tnN_b (n := D.sm j) (show m < 6 by omega)
    have hp := m_p10b (show m < 7 by omega)
    rw [dT, uT_c]
    rw [cs_app] at ih
    simp only [cs_app]
    have old : s + 9 * 10 ^ m ≤ D.sm j ∨ D.sm j + 9 * 10 ^ m ≤ s → cs s (dT D j m ++ uT D j 0 m) = 0 := fun h => cs_0 (fun x hx => by
      obtain ⟨h1, h2, h3, h4, h5⟩ := gT_b ok hj (show m ≤ 5 by omega) x hx
      omega)
    rw [cs_app] at old
    have new : tnN (D.sm j) m ≠ s → cs s (pD D j m) = 0 ∧ cs s (pU D j m) = 0 := fun h => ⟨cs_0 (fun x hx => by
      unfold pD at hx; split at hx
      · rw [ps_mem hx]; exact h
      · simp at hx), cs_0 (fun x hx => by
      unfold pU at hx; split at hx
      · rw [ps_mem hx]; exact h
      · simp at hx)⟩
    by_cases c : tnN (D.sm j) m = s
    · by_cases c0 : tnN (D.sm j) m = 0
      · have e1 : pD D j m = [] := by unfold pD ps; rw [if_pos c0, ite_self]
        have e2 : pU D j m = [] := by unfold pU ps; rw [if_pos c0, ite_self]
        have e3 : cs s ([] : List Sl) = 0 := rfl
        rw [e1, e2, e3]; omega
      · have h3 := ps_len D 0 j (tnN (D.sm j) m) (D.od j 0)
        have h4 : cs s (pD D j m) + cs s (pU D j m) ≤ 1 := by
          unfold pD pU
          by_cases c1 : tnN (D.sm j) m < D.sm j
          · rw [if_pos c1, if_neg (by omega)]
            have := cs_le s (ps D 0 j (tnN (D.sm j) m) (D.od j 0))
            have e3 : cs s ([] : List Sl) = 0 := rfl
            omega
          · rw [if_neg c1]
            have e3 : cs s ([] : List Sl) = 0 := rfl
            split
            · have := cs_le s (ps D 0 j (tnN (D.sm j) m) (D.od j 0))
              omega
            · omega
        have := old (by omega)
        omega
    · have := new c
      omega
theorem rF_c' {D : Dt} {j k : Nat} {m a : Nat} {x : Sl} (h : x ∈ rF D j k a m) : x.2.2.2.1 = chg D j x.2.2.1 := by
  obtain ⟨i, _, _, h3⟩ := rF_mem h
  unfold pF at h3
  rw [ps_mem h3]
theorem gF_c {D : Dt} {j : Nat} : ∀ (m : Nat) (x : Sl), x ∈ dF D j m ++ uF D j 0 m → x.2.2.2.1 = chg D j x.2.2.1
  | 0, x, h => by simp [dF, uF] at h
  | m + 1, x, h => by
    rw [dF, uF_c] at h
    simp only [List.mem_append] at h
    rcases h with (h | h) | (h | h)
    · exact rF_c' h
    · exact gF_c m x (List.mem_append_left _ h)
    · exact gF_c m x (List.mem_append_right _ h)
    · exact rF_c' h
theorem rF_cs {D : Dt} {j k : Nat} (hk : k < 6) (s : Nat) : ∀ m a, cs s (rF D j k a m) ≤ 1
  | 0, a => by simp [rF, cs]
  | m + 1, a => by
    rw [rF_s, cs_app]
    have ih := rF_cs (D := D) (j := j) hk s m (a + 1)
    have h1 : cs s (pF D j k a) ≤ 1 := Nat.le_trans (cs_le ..) (ps_len ..)
    by_cases c : figN (D.sm j) k a = s
    · have : cs s (rF D j k (a + 1) m) = 0 := cs_0 (fun x hx => by
        obtain ⟨i, i1, _, h3⟩ := rF_mem hx
        unfold pF at h3
        rw [ps_mem h3]
        have := (figN_mono (n := D.sm j) (k := k) (show a < i by omega)).2 hk
        show figN (D.sm j) k i ≠ s
        omega)
      omega
    · have : cs s (pF D j k a) = 0 := cs_0 (fun x hx => by
        unfold pF at hx
        rw [ps_mem hx]; exact c)
      omega
theorem gF_cs {D : Dt} {j : Nat} (ok : okD D) (hj : j < D.1) (s : Nat) : ∀ m, m ≤ nd (D.sm j) → cs s (dF D j m ++ uF D j 0 m) ≤ 1
  | 0, _ => by simp [dF, uF, cs]
  | m + 1, hm => by
    have hr := nd_range (D.sm j)
    have ih := gF_cs ok hj s m (by omega)
    have hp := m_p10b (show m < 7 by omega)
    have hd := dg_lt (D.sm j) m
    rw [dF, uF_c]
    rw [cs_app] at ih
    simp only [cs_app]
    have old : s + 10 ^ m ≤ D.sm j ∨ D.sm j + 10 ^ m ≤ s → cs s (dF D j m ++ uF D j 0 m) = 0 := fun h => cs_0 (fun x hx => by
      obtain ⟨h1, h2, h3, h4, h5⟩ := gF_b ok hj (show m ≤ nd (D.sm j) by omega) x hx
      omega)
    rw [cs_app] at old
    have l1 : cs s (lF D j m) ≤ 1 := rF_cs (by omega) s _ _
    have h1 : cs s (hF D j m) ≤ 1 := rF_cs (by omega) s _ _
    have l0 : ¬ (s + 10 ^ m ≤ D.sm j) → cs s (lF D j m) = 0 := fun h => cs_0 (fun x hx => by
      obtain ⟨i, i1, i2, h3⟩ := rF_mem hx
      unfold pF at h3
      rw [ps_mem h3]
      have := (figN_b (n := D.sm j) (k := m) (by omega) (show i < 10 by omega)).2.2.1 (by omega)
      show figN (D.sm j) m i ≠ s
      omega)
    have h0 : ¬ (D.sm j + 10 ^ m ≤ s) → cs s (hF D j m) = 0 := fun h => cs_0 (fun x hx => by
      obtain ⟨i, i1, i2, h3⟩ := rF_mem hx
      unfold pF at h3
      rw [ps_mem h3]
      have := (figN_b (n := D.sm j) (k := m) (by omega) (show i < 10 by omega)).2.2.2 (by omega)
      show figN (D.sm j) m i ≠ s
      omega)
    by_cases c1 : s + 10 ^ m ≤ D.sm j
    · have := h0 (by omega); have := old (Or.inl c1); omega
    · have := l0 c1
      by_cases c2 : D.sm j + 10 ^ m ≤ s
      · have := old (Or.inr c2); omega
      · have := h0 c2; omega
theorem cw_pc (w : Int32) (k p s : Nat) (c : Int32) (v : Nat) : cw w (pc k p s c v) ≤ if c = w then 1 else 0 := by
  unfold pc
  split
  · simp [cw]
  · unfold cw
    by_cases h : c = w
    · simp [h]
    · simp [h]
theorem gC_cw (D : Dt) (p : Nat) (w : Int32) : cw w (gC D p) ≤ 1 := by
  unfold gC
  split
  · rw [show (List.range' 1 5).flatMap (gK D p) = gK D p 1 ++ (gK D p 2 ++ (gK D p 3 ++ (gK D p 4 ++ (gK D p 5 ++ [])))) from rfl]
    simp only [gK, cw_app]
    have e3 : cw w ([] : List Sl) = 0 := rfl
    have a1 := cw_pc w 6 p 1 (-(nI (10 ^ 1))) D.2.2.2.2.2.toNatClampNeg
    have a2 := cw_pc w 6 p 2 (-(nI (10 ^ 2))) D.2.2.2.2.2.toNatClampNeg
    have a3 := cw_pc w 6 p 3 (-(nI (10 ^ 3))) D.2.2.2.2.2.toNatClampNeg
    have a4 := cw_pc w 6 p 4 (-(nI (10 ^ 4))) D.2.2.2.2.2.toNatClampNeg
    have a5 := cw_pc w 6 p 5 (-(nI (10 ^ 5))) D.2.2.2.2.2.toNatClampNeg
    have b1 := cw_pc w 6 p 1 (nI (10 ^ 1)) D.2.2.2.2.2.toNatClampNeg
    have b2 := cw_pc w 6 p 2 (nI (10 ^ 2)) D.2.2.2.2.2.toNatClampNeg
    have b3 := cw_pc w 6 p 3 (nI (10 ^ 3)) D.2.2.2.2.2.toNatClampNeg
    have b4 := cw_pc w 6 p 4 (nI (10 ^ 4)) D.2.2.2.2.2.toNatClampNeg
    have b5 := cw_pc w 6 p 5 (nI (10 ^ 5)) D.2.2.2.2.2.toNatClampNeg
    have tot : (if -(nI (10 ^ 1)) = w then 1 else 0) + (if -(nI (10 ^ 2)) = w then 1 else 0) + (if -(nI (10 ^ 3)) = w then 1 else 0) + (if -(nI (10 ^ 4)) = w then 1 else 0) + (if -(nI (10 ^ 5)) = w then 1 else 0) + (if nI (10 ^ 1) = w then 1 else 0) + (if nI (10 ^ 2) = w then 1 else 0) + (if nI (10 ^ 3) = w then 1 else 0) + (if nI (10 ^ 4) = w then 1 else 0) + (if nI (10 ^ 5) = w then 1 else 0) ≤ (1 : Nat) := by
      by_cases c : -(nI (10 ^ 1)) = w
      · subst c; decide +kernel
      by_cases c : -(nI (10 ^ 2)) = w
      · subst c; decide +kernel
      by_cases c : -(nI (10 ^ 3)) = w
      · subst c; decide +kernel
      by_cases c : -(nI (10 ^ 4)) = w
      · subst c; decide +kernel
      by_cases c : -(nI (10 ^ 5)) = w
      · subst c; decide +kernel
      by_cases c : nI (10 ^ 1) = w
      · subst c; decide +kernel
      by_cases c : nI (10 ^ 2) = w
      · subst c; decide +kernel
      by_cases c : nI (10 ^ 3) = w
      · subst c; decide +kernel
      by_cases c : nI (10 ^ 4) = w
      · subst c; decide +kernel
      by_cases c : nI (10 ^ 5) = w
      · subst c; decide +kernel
      simp [*]
    omega
  · simp [cw]
theorem SL_cw {D : Dt} (ok : okD D) (w : Int32) : cw w (SL D) ≤ 157 := by
  have he := ok.1
  have g1 : cw w (fl (gT D) D.1) ≤ D.1 := cw_fl (fun j hj => by
    have hr := nd_range (D.sm j)
    exact cw_cs (D := D) (j := j) (fun x hx => ⟨(gT_b ok hj (by omega) x hx).1, gT_c _ x hx⟩) (fun s => gT_cs ok hj s _ (by omega)))
  have g2 : cw w (fl (gF D) D.1) ≤ D.1 := cw_fl (fun j hj =>
    cw_cs (D := D) (j := j) (fun x hx => ⟨(gF_b ok hj (Nat.le_refl _) x hx).1, gF_c _ x hx⟩) (fun s => gF_cs ok hj s _ (Nat.le_refl _)))
  have g3 : cw w (fl (gN D) D.1) ≤ D.1 := cw_fl (fun j hj => by
    have hsm := ok.sm hj
    have ho := (ok.od (k := 2) hj (by omega)).2
    refine cw_cs (D := D) (j := j) (fun x hx => ?_) (fun s => ?_)
    · refine ⟨(gg_mem ok hj (show 2 < 5 by omega) (x := x) hx).1, ?_⟩
      unfold gN at hx
      rcases List.mem_append.mp hx with hx | hx
      · rw [ps_mem hx]
      · rw [ps_mem hx]
    · unfold gN
      rw [cs_app]
      have h1 := Nat.le_trans (cs_le s (ps D 2 j (shN (D.sm j)) (D.od j 2))) (ps_len ..)
      have h2 := Nat.le_trans (cs_le s (ps D 2 j (loN (D.sm j)) (D.od j 2))) (ps_len ..)
      by_cases c : shN (D.sm j) = s
      · by_cases c0 : shN (D.sm j) = 0
        · have : cs s (ps D 2 j (shN (D.sm j)) (D.od j 2)) = 0 := by unfold ps; rw [if_pos c0]; rfl
          omega
        · have : cs s (ps D 2 j (loN (D.sm j)) (D.od j 2)) = 0 := cs_0 (fun x hx => by
            rw [ps_mem hx]
            show loN (D.sm j) ≠ s
            have e1 : shN (D.sm j) ≤ D.sm j / 10 := by unfold shN; split <;> omega
            have e2 : loN (D.sm j) = 0 ∨ loN (D.sm j) = D.sm j * 10 := by unfold loN; split <;> omega
            omega)
          omega
      · have : cs s (ps D 2 j (shN (D.sm j)) (D.od j 2)) = 0 := cs_0 (fun x hx => by rw [ps_mem hx]; exact c)
        omega)
  have g4 : cw w (fl (gS D) D.1) ≤ D.1 := cw_fl (fun j hj => Nat.le_trans (cw_le ..) (pc_len ..))
  have g5 : cw w (fl (gW D) D.1) ≤ D.1 := cw_fl (fun j hj => by
    unfold gW
    split
    · exact Nat.le_trans (cw_le ..) (pc_len ..)
    · simp [cw])
  have g6 : cw w (gM D) ≤ 1 := by
    unfold gM
    split
    · simp [cw]
    · exact Nat.le_trans (cw_le ..) (pc_len ..)
  have g7 : cw w (fl (gC D) 6) ≤ 6 := cw_fl (fun j hj => gC_cw ..)
  unfold SL
  simp only [cw_app]
  omega
