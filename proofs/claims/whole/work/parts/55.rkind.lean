/-! slips: the reference lays all of one kind at one entry -/
theorem r_figX {N j k : Nat} {D : Dt} {L : List Sl} {rec13 : Int32 → Int32 → Int32 → aSt → Option aSt} (hN : 3000 ≤ N) (ok : okD D) (hj : j < D.1) (hL : bef 1 j L) (hl : L.length ≤ 1921) (hk : k < nd (D.sm j)) : ∀ (m x f : Nat) (S : aSt), x + m = 10 → m < f → x0 (D.sm j) k ≤ x → slR S (L ++ mid D j k x) → lgR S D → ∃ T, X11_layFigures_42_l45 N rec13 f (nI j) (nI (D.sm j)) (nI k) (nI (dg (D.sm j) k)) (nI x) S = rec13 (nI j) (nI (D.sm j)) (nI (k + 1)) T ∧ slR T (L ++ mid D j k 10) ∧ lgR T D := by
  have hr := nd_range (D.sm j)
  have hd := dg_lt (D.sm j) k
  intro m
  induction m with
  | zero =>
    intro x f S hx hf hx0 hS hD
    obtain ⟨f, rfl⟩ : ∃ q, f = q + 1 := ⟨f - 1, by omega⟩
    have : x = 10 := by omega
    subst this
    refine ⟨S, ?_, hS, hD⟩
    show X11_layFigures_42_b45 N rec13 (X11_layFigures_42_l45 N rec13 f) _ _ _ _ _ _ = _
    unfold X11_layFigures_42_b45 X11_layFigures_42_b114
    rw [if_pos (by decide), nI_1]
  | succ m ih =>
    intro x f S hx hf hx0 hS hD
    obtain ⟨f, rfl⟩ : ∃ q, f = q + 1 := ⟨f - 1, by omega⟩
    by_cases c : x = dg (D.sm j) k
    · have e1 : mid D j k x = mid D j k (x + 1) := by
        unfold mid
        rw [Nat.min_eq_left (by omega), Nat.min_eq_right (by omega), c]
        congr 3
        omega
      rw [e1] at hS
      obtain ⟨T, t1, t2, t3⟩ := ih (x + 1) f S (by omega) (by omega) (by omega) hS hD
      refine ⟨T, ?_, t2, t3⟩
      rw [← t1]
      show X11_layFigures_42_b45 N rec13 (X11_layFigures_42_l45 N rec13 f) _ _ _ _ _ _ = _
      unfold X11_layFigures_42_b45 X11_layFigures_42_b108
      rw [if_neg (by exact iNLE 10 x (by omega)), if_pos (by rw [c]), nI_1]
    · obtain ⟨T1, a1, a2, a3⟩ := r_fig hN ok hj hL hl hk (show x < 10 by omega) hx0 c hS hD
      obtain ⟨T, t1, t2, t3⟩ := ih (x + 1) f T1 (by omega) (by omega) (by omega) a2 a3
      refine ⟨T, ?_, t2, t3⟩
      rw [← t1]
      show X11_layFigures_42_b45 N rec13 (X11_layFigures_42_l45 N rec13 f) _ _ _ _ _ _ = _
      unfold X11_layFigures_42_b45 X11_layFigures_42_b108
      have e10 : (10 : Int32) * nI x + nI (dg (D.sm j) k) = nI (10 * x + dg (D.sm j) k) := by
        show nI 10 * nI x + _ = _
        rw [pk_mul, nI_add]
      rw [if_neg (by exact iNLE 10 x (by omega)), if_neg (by exact iNE x (dg (D.sm j) k) c), X11_power_eq (by omega) (by omega)]
      simp only [Option.bind_some]
      rw [figN_I, r_changeBy hD ok hj]
      simp only [Option.bind_some]
      rw [show X11_oddsOf_42 N (nI j) (1 : Int32) S = some (nI (D.od j 1)) from r_odds (k := 1) hD ok hj (by omega)]
      simp only [Option.bind_some]
      rw [e10, if_pos (m_ix (by omega) (by decide)), nI_clamp (by omega), hD.2.2.2.1 _ (by omega), (ok.rd (by omega) hd).1, pk_mul, a1]
      simp only [Option.bind_some]
      rw [nI_1]
theorem r_figs {N j : Nat} {D : Dt} {L : List Sl} (hN : 3000 ≤ N) (ok : okD D) (hj : j < D.1) (hL : bef 1 j L) (hl : L.length ≤ 1921) : ∀ (m k f : Nat) (S : aSt), k + m = nd (D.sm j) → m < f → slR S (L ++ (dF D j k ++ uF D j 0 k)) → lgR S D → ∃ T, X11_layFigures_42_l13 N f (nI j) (nI (D.sm j)) (nI k) S = some T ∧ slR T (L ++ gF D j) ∧ lgR T D := by
  have hn := (ok.sm hj).2.2
  have hr := nd_range (D.sm j)
  intro m
  induction m with
  | zero =>
    intro k f S hk hf hS hD
    obtain ⟨f, rfl⟩ : ∃ q, f = q + 1 := ⟨f - 1, by omega⟩
    have : k = nd (D.sm j) := by omega
    subst this
    refine ⟨S, ?_, hS, hD⟩
    show X11_layFigures_42_b13 N (X11_layFigures_42_l13 N f) _ _ _ _ = _
    unfold X11_layFigures_42_b13
    rw [X11_figures_eq (by omega) hn]
    simp only [Option.bind_some]
    rw [if_pos (Int32.le_refl _)]
  | succ m ih =>
    intro k f S hk hf hS hD
    obtain ⟨f, rfl⟩ : ∃ q, f = q + 1 := ⟨f - 1, by omega⟩
    have hd := dg_lt (D.sm j) k
    have hx : x0 (D.sm j) k ≤ 1 := by unfold x0; split <;> omega
    have e1 : mid D j k (x0 (D.sm j) k) = dF D j k ++ uF D j 0 k := by
      unfold mid
      rw [show min (x0 (D.sm j) k) (dg (D.sm j) k) - x0 (D.sm j) k = 0 by omega, show x0 (D.sm j) k - (dg (D.sm j) k + 1) = 0 by omega]
      simp [rF]
    have e2 : mid D j k 10 = dF D j (k + 1) ++ uF D j 0 (k + 1) := by
      unfold mid
      rw [dF, uF_c, Nat.min_eq_right (by omega), show 10 - (dg (D.sm j) k + 1) = 9 - dg (D.sm j) k by omega]
      unfold lF hF
      simp only [List.append_assoc]
    obtain ⟨T1, a1, a2, a3⟩ := r_figX (N := N) (k := k) (rec13 := X11_layFigures_42_l13 N f) hN ok hj hL hl (by omega) (10 - x0 (D.sm j) k) (x0 (D.sm j) k) N S (by omega) (by omega) (Nat.le_refl _) (by rw [e1]; exact hS) hD
    rw [e2] at a2
    obtain ⟨T, t1, t2, t3⟩ := ih (k + 1) f T1 (by omega) (by omega) a2 a3
    refine ⟨T, ?_, t2, t3⟩
    rw [← t1, ← a1]
    show X11_layFigures_42_b13 N (X11_layFigures_42_l13 N f) _ _ _ _ = _
    unfold X11_layFigures_42_b13 X11_layFigures_42_b43
    rw [X11_figures_eq (by omega) hn]
    simp only [Option.bind_some]
    rw [if_neg (by exact iNLE (nd (D.sm j)) k (by omega)), X11_figure_eq (by omega) (by omega) (by omega)]
    simp only [Option.bind_some]
    rw [nI_1]
    unfold x0
    by_cases c : k + 1 = nd (D.sm j)
    · rw [if_pos (by rw [c]), if_pos c]; rfl
    · rw [if_neg (by exact iNE (k + 1) (nd (D.sm j)) c), if_neg c]; rfl
def gg (D : Dt) (k j : Nat) : List Sl := if k = 0 then gT D j else if k = 1 then gF D j else if k = 2 then gN D j else if k = 3 then gS D j else gW D j
theorem pc_ok {k p s w : Nat} {c : Int32} (hk : k < 2 ^ 31) (hp : p < 2 ^ 31) (hs : s < 2 ^ 31) (hw : w < 2 ^ 31) {x : Sl} (h : x ∈ pc k p s c w) : okS x ∧ x.1 = k ∧ x.2.1 = p ∧ x.2.2.1 = s := by
  rw [pc_mem h]; exact ⟨⟨hk, hp, hs, hw⟩, rfl, rfl, rfl⟩
theorem ps_ok {D : Dt} {k j s w : Nat} (hk : k < 2 ^ 31) (hj : j < 2 ^ 31) (hs : s < 2 ^ 31) (hw : w < 2 ^ 31) {x : Sl} (h : x ∈ ps D k j s w) : okS x ∧ x.1 = k ∧ x.2.1 = j ∧ x.2.2.1 = s := by
  rw [ps_mem h]; exact ⟨⟨hk, hj, hs, hw⟩, rfl, rfl, rfl⟩
theorem gg_mem {D : Dt} {k j : Nat} (ok : okD D) (hj : j < D.1) (hk : k < 5) {x : Sl} (h : x ∈ gg D k j) : okS x ∧ x.1 = k ∧ x.2.1 = j := by
  have hsm := ok.sm hj
  have hr := nd_range (D.sm j)
  have he := ok.1
  unfold gg at h
  by_cases c0 : k = 0
  · subst c0
    rw [if_pos rfl] at h
    obtain ⟨h1, h2, h3, -, -⟩ := gT_b ok hj (m := nd (D.sm j) - 1) (by omega) x h
    exact ⟨h1, h2, h3⟩
  rw [if_neg c0] at h
  by_cases c1 : k = 1
  · subst c1
    rw [if_pos rfl] at h
    obtain ⟨h1, h2, h3, -, -⟩ := gF_b ok hj (m := nd (D.sm j)) (Nat.le_refl _) x h
    exact ⟨h1, h2, h3⟩
  rw [if_neg c1] at h
  by_cases c2 : k = 2
  · subst c2
    rw [if_pos rfl] at h
    have ho := (ok.od (k := 2) hj (by omega)).2
    rcases List.mem_append.mp h with h | h
    · obtain ⟨h1, h2, h3, -⟩ := ps_ok (by omega) (by omega) (show shN (D.sm j) < 2 ^ 31 by unfold shN; split <;> omega) (by omega) h
      exact ⟨h1, h2, h3⟩
    · obtain ⟨h1, h2, h3, -⟩ := ps_ok (by omega) (by omega) (show loN (D.sm j) < 2 ^ 31 by unfold loN; split <;> omega) (by omega) h
      exact ⟨h1, h2, h3⟩
  rw [if_neg c2] at h
  by_cases c3 : k = 3
  · subst c3
    rw [if_pos rfl] at h
    have ho := (ok.od (k := 3) hj (by omega)).2
    obtain ⟨h1, h2, h3, -⟩ := pc_ok (by omega) (by omega) (by omega) (by omega) h
    exact ⟨h1, h2, h3⟩
  rw [if_neg c3] at h
  have c4 : k = 4 := by omega
  subst c4
  have ho := (ok.od (k := 4) hj (by omega)).2
  unfold gW at h
  split at h
  · obtain ⟨h1, h2, h3, -⟩ := pc_ok (by omega) (by omega) (by omega) (by omega) h
    exact ⟨h1, h2, h3⟩
  · simp at h
theorem bef_app {D : Dt} {k j : Nat} {L : List Sl} (ok : okD D) (hj : j < D.1) (hk : k < 5) (h : bef k j L) : bef k (j + 1) (L ++ gg D k j) := by
  intro x hx
  rcases List.mem_append.mp hx with hx | hx
  · obtain ⟨h1, h2⟩ := h x hx
    exact ⟨h1, by omega⟩
  · obtain ⟨h1, h2, h3⟩ := gg_mem ok hj hk hx
    exact ⟨h1, by omega⟩
theorem r_one {N j k s w : Nat} {c : Int32} {D : Dt} {L : List Sl} {S : aSt} (hN : 3000 ≤ N) (hj : j < 100) (hk : k < 6) (hs : s < 2 ^ 31) (hw : w < 2 ^ 31) (hL : bef k j L) (hl : L.length ≤ 1921) (hS : slR S L) (hD : lgR S D) : ∃ T, X11_add_42 N (nI k) (nI j) (nI s) c (nI w) S = some T ∧ slR T (L ++ pc k j s c w) ∧ lgR T D := by
  have := r_add (k := k) (A := L) (B := []) (D := D) (p := j) (s := s) (c := c) (w := w) (S := S) hN hw (by omega) hj hs (fun z hz => ⟨(hL z hz).1, fun h => by have := (hL z hz).2; omega⟩) (fun z hz => by simp at hz) (by rw [List.append_nil]; exact hS) hD (by rw [List.append_nil]; omega)
  simp only [List.append_nil] at this
  exact this
