/-! what the printed functions leave as it was (by wip/whole/gen) -/
/-- what may be written: ints, longs, arrays -/
abbrev aWr : Type := List (Nat × Nat) × List (Nat × Nat) × List Nat
def aFr (W : aWr) (S T : aSt) : Prop := (∀ k j, (k, j) ∉ W.1 → T.1 k j = S.1 k j) ∧ (∀ k j, (k, j) ∉ W.2.1 → T.2.1 k j = S.2.1 k j) ∧ ∀ k, k ∉ W.2.2 → T.2.2 k = S.2.2 k
theorem aFr.rf {W : aWr} {S : aSt} : aFr W S S := ⟨fun _ _ _ => rfl, fun _ _ _ => rfl, fun _ _ => rfl⟩
theorem aFr.tr {W : aWr} {S T U : aSt} (h : aFr W S T) (h2 : aFr W T U) : aFr W S U := ⟨fun k j q => (h2.1 k j q).trans (h.1 k j q), fun k j q => (h2.2.1 k j q).trans (h.2.1 k j q), fun k q => (h2.2.2 k q).trans (h.2.2 k q)⟩
def aWsub (W V : aWr) : Bool := W.1.all (fun q => V.1.contains q) && W.2.1.all (fun q => V.2.1.contains q) && W.2.2.all (fun q => V.2.2.contains q)
theorem aFr.mono {W V : aWr} {S T : aSt} (h : aFr W S T) (hs : aWsub W V = true) : aFr V S T := by
  unfold aWsub at hs
  simp only [Bool.and_eq_true, List.all_eq_true, List.contains_iff_mem] at hs
  exact ⟨fun k j q => h.1 k j (fun z => q (hs.1.1 _ z)), fun k j q => h.2.1 k j (fun z => q (hs.1.2 _ z)), fun k q => h.2.2 k (fun z => q (hs.2 _ z))⟩
theorem aFr.I {W : aWr} {S T : aSt} (h : aFr W S T) (k j : Nat) (v : Int32) (hw : (k, j) ∈ W.1) : aFr W S (aI T k j v) := by
  refine ⟨fun a b q => ?_, h.2.1, h.2.2⟩
  have hn : ¬ (a = k ∧ b = j) := fun e => q (by rw [e.1, e.2]; exact hw)
  rw [← h.1 a b q]
  unfold aI
  by_cases ha : a = k
  · subst ha
    have hb : b ≠ j := fun e => hn ⟨rfl, e⟩
    simp [hb]
  · simp [ha]
theorem aFr.L {W : aWr} {S T : aSt} (h : aFr W S T) (k j : Nat) (v : Int64) (hw : (k, j) ∈ W.2.1) : aFr W S (aL T k j v) := by
  refine ⟨h.1, fun a b q => ?_, h.2.2⟩
  have hn : ¬ (a = k ∧ b = j) := fun e => q (by rw [e.1, e.2]; exact hw)
  rw [← h.2.1 a b q]
  unfold aL
  by_cases ha : a = k
  · subst ha
    have hb : b ≠ j := fun e => hn ⟨rfl, e⟩
    simp [hb]
  · simp [ha]
theorem aFr.A {W : aWr} {S T : aSt} (h : aFr W S T) (k : Nat) (f : Nat → Int32) (hw : k ∈ W.2.2) : aFr W S (aA T k f) := by
  refine ⟨h.1, h.2.1, fun a q => ?_⟩
  have hn : a ≠ k := fun e => q (by rw [e]; exact hw)
  rw [← h.2.2 a q]
  simp [aA, hn]
def W_X6_set_3 : aWr := ([], [], [3])
theorem F_X6_set_3 (a1 : Int32) (a2 : Int32) (S : aSt) {r : aSt} (hf : X6_set_3 a1 a2 S = r) : aFr W_X6_set_3 S r := by
  unfold X6_set_3 at hf
  rcases aIfE hf with ⟨-, hf⟩ | ⟨-, hf⟩
  · subst hf
    exact aFr.rf
  · rcases aIfE hf with ⟨-, hf⟩ | ⟨-, hf⟩
    · subst hf
      exact aFr.rf
    · subst hf
      exact (aFr.A aFr.rf 3 _ (by decide))
def W_X6_set_4 : aWr := ([], [], [4])
theorem F_X6_set_4 (a1 : Int32) (a2 : Int32) (S : aSt) {r : aSt} (hf : X6_set_4 a1 a2 S = r) : aFr W_X6_set_4 S r := by
  unfold X6_set_4 at hf
  rcases aIfE hf with ⟨-, hf⟩ | ⟨-, hf⟩
  · subst hf
    exact aFr.rf
  · rcases aIfE hf with ⟨-, hf⟩ | ⟨-, hf⟩
    · subst hf
      exact aFr.rf
    · subst hf
      exact (aFr.A aFr.rf 4 _ (by decide))
def W_X6_set_5 : aWr := ([], [], [5])
theorem F_X6_set_5 (a1 : Int32) (a2 : Int32) (S : aSt) {r : aSt} (hf : X6_set_5 a1 a2 S = r) : aFr W_X6_set_5 S r := by
  unfold X6_set_5 at hf
  rcases aIfE hf with ⟨-, hf⟩ | ⟨-, hf⟩
  · subst hf
    exact aFr.rf
  · rcases aIfE hf with ⟨-, hf⟩ | ⟨-, hf⟩
    · subst hf
      exact aFr.rf
    · subst hf
      exact (aFr.A aFr.rf 5 _ (by decide))
def W_X9_setToken_1 : aWr := ([], [], [3, 4, 5])
theorem F_X9_setToken_1_b139 {N : Nat} (s0 : Int32) (s1 : Int32) (S : aSt) {r : aSt} (hf : X9_setToken_1_b139 N s0 s1 S = (some r)) : aFr W_X9_setToken_1 S r := by
  unfold X9_setToken_1_b139 at hf
  obtain ⟨w16, ew17, hf⟩ := aLetE hf
  have hw16 : aFr W_X9_setToken_1 S w16 := aFr.tr aFr.rf ((F_X6_set_3 s1 s0 S ew17).mono (by decide))
  have e9 := Option.some.inj hf; subst e9
  exact hw16
theorem F_X9_setToken_1_b73 {N : Nat} (v1 : Int32) (v2 : Int32) (v3 : Int32) (v4 : Int32) (s0 : Int32) (s1 : Int32) (S : aSt) {r : aSt} (hf : X9_setToken_1_b73 N v1 v2 v3 v4 s0 s1 S = (some r)) : aFr W_X9_setToken_1 S r := by
  unfold X9_setToken_1_b73 at hf
  obtain ⟨w9, ew10, hf⟩ := aLetE hf
  have hw9 : aFr W_X9_setToken_1 S w9 := aFr.tr aFr.rf ((F_X6_set_5 s1 s0 S ew10).mono (by decide))
  rcases aIfE hf with ⟨-, hf⟩ | ⟨-, hf⟩
  · obtain ⟨w20, ew21, hf⟩ := aBnE hf
    obtain ⟨w22, ew23, hf⟩ := aLetE hf
    have hw22 : aFr W_X9_setToken_1 S w22 := aFr.tr hw9 ((F_X6_set_3 v1 w20 w9 ew23).mono (by decide))
    have e9 := Option.some.inj hf; subst e9
    exact hw22
  · rcases aIfE hf with ⟨-, hf⟩ | ⟨-, hf⟩
    · obtain ⟨w18, ew19, hf⟩ := aLetE hf
      have hw18 : aFr W_X9_setToken_1 S w18 := aFr.tr hw9 ((F_X6_set_3 v1 (1 : Int32) w9 ew19).mono (by decide))
      have e9 := Option.some.inj hf; subst e9
      exact hw18
    · obtain ⟨w13, ew14, hf⟩ := aLetE hf
      rcases aIfE hf with ⟨-, hf⟩ | ⟨-, hf⟩
      · exact aFr.tr hw9 (F_X9_setToken_1_b139 (2 : Int32) v1 w9 hf)
      · exact aFr.tr hw9 (F_X9_setToken_1_b139 (3 : Int32) v1 w9 hf)
theorem F_X9_setToken_1_b43 {N : Nat} (v1 : Int32) (v2 : Int32) (v3 : Int32) (v4 : Int32) (S : aSt) {r : aSt} (hf : X9_setToken_1_b43 N v1 v2 v3 v4 S = (some r)) : aFr W_X9_setToken_1 S r := by
  unfold X9_setToken_1_b43 at hf
  obtain ⟨w6, ew7, hf⟩ := aLetE hf
  have hw6 : aFr W_X9_setToken_1 S w6 := aFr.tr aFr.rf ((F_X6_set_4 v1 v2 S ew7).mono (by decide))
  rcases aIfE hf with ⟨-, hf⟩ | ⟨-, hf⟩
  · obtain ⟨w24, ew25, hf⟩ := aBnE hf
    exact aFr.tr hw6 (F_X9_setToken_1_b73 v1 v2 v3 v4 w24 v1 w6 hf)
  · exact aFr.tr hw6 (F_X9_setToken_1_b73 v1 v2 v3 v4 ((-1) : Int32) v1 w6 hf)
theorem F_X9_setToken_1_b11 {N : Nat} {rec11 : Int32 → Int32 → Int32 → Int32 → aSt → Option (aSt)} (hrec11 : ∀ (v1 : Int32) (v2 : Int32) (v3 : Int32) (v4 : Int32) (S : aSt) {r : aSt}, rec11 v1 v2 v3 v4 S = (some r) → aFr W_X9_setToken_1 S r) (v1 : Int32) (v2 : Int32) (v3 : Int32) (v4 : Int32) (S : aSt) {r : aSt} (hf : X9_setToken_1_b11 N rec11 v1 v2 v3 v4 S = (some r)) : aFr W_X9_setToken_1 S r := by
  unfold X9_setToken_1_b11 at hf
  obtain ⟨w3, ew4, hf⟩ := aLetE hf
  rcases aIfE hf with ⟨-, hf⟩ | ⟨-, hf⟩
  · exact aFr.tr aFr.rf (F_X9_setToken_1_b43 v1 v2 v3 v4 S hf)
  · rcases aIfE hf with ⟨-, hf⟩ | ⟨-, hf⟩
    · exact aFr.tr aFr.rf (F_X9_setToken_1_b43 v1 v2 v3 v4 S hf)
    · obtain ⟨w27, ew28, hf⟩ := aLetE hf
      rcases aIfE hf with ⟨-, hf⟩ | ⟨-, hf⟩
      · exact aFr.tr aFr.rf (hrec11 v1 v2 v3 (v4 + (1 : Int32)) S hf)
      · exact aFr.tr aFr.rf (F_X9_setToken_1_b43 v1 v2 v3 v4 S hf)
theorem F_X9_setToken_1_l11 {N : Nat} : ∀ (n : Nat) (v1 : Int32) (v2 : Int32) (v3 : Int32) (v4 : Int32) (S : aSt) {r : aSt}, X9_setToken_1_l11 N n v1 v2 v3 v4 S = (some r) → aFr W_X9_setToken_1 S r
  | 0, _, _, _, _, _, _, h => nomatch (show (none : Option (aSt)) = some _ from h)
  | n + 1, v1, v2, v3, v4, S, _, h => F_X9_setToken_1_b11 (fun v1 v2 v3 v4 S _ h => F_X9_setToken_1_l11 n v1 v2 v3 v4 S h) v1 v2 v3 v4 S h
theorem F_X9_setToken_1 (N : Nat) (a1 : Int32) (a2 : Int32) (S : aSt) {r : aSt} (hf : X9_setToken_1 N a1 a2 S = (some r)) : aFr W_X9_setToken_1 S r := by
  unfold X9_setToken_1 at hf
  obtain ⟨w1, ew2, hf⟩ := aLetE hf
  exact aFr.tr aFr.rf (F_X9_setToken_1_l11 N a1 a2 w1 (a2 + (1 : Int32)) S hf)
def W_X9_split_1 : aWr := ([], [], [3, 4, 5])
theorem F_X9_split_1_b35 {N : Nat} (v1 : Int32) (S : aSt) {r : aSt} (hf : X9_split_1_b35 N v1 S = (some r)) : aFr W_X9_split_1 S r := by
  unfold X9_split_1_b35 at hf
  obtain ⟨w2, ew3, hf⟩ := aLetE hf
  have hw2 : aFr W_X9_split_1 S w2 := aFr.tr aFr.rf ((F_X6_set_3 v1 (0 : Int32) S ew3).mono (by decide))
  obtain ⟨w4, ew5, hf⟩ := aLetE hf
  have hw4 : aFr W_X9_split_1 S w4 := aFr.tr hw2 ((F_X6_set_4 v1 (w2.1 1 0) w2 ew5).mono (by decide))
  obtain ⟨w6, ew7, hf⟩ := aLetE hf
  have hw6 : aFr W_X9_split_1 S w6 := aFr.tr hw4 ((F_X6_set_5 v1 ((-1) : Int32) w4 ew7).mono (by decide))
  have e9 := Option.some.inj hf; subst e9
  exact hw6
theorem F_X9_split_1_b29 {N : Nat} {rec4 : Int32 → Int32 → aSt → Option (aSt)} (hrec4 : ∀ (v1 : Int32) (v2 : Int32) (S : aSt) {r : aSt}, rec4 v1 v2 S = (some r) → aFr W_X9_split_1 S r) (v1 : Int32) (v2 : Int32) (S : aSt) {r : aSt} (hf : X9_split_1_b29 N rec4 v1 v2 S = (some r)) : aFr W_X9_split_1 S r := by
  unfold X9_split_1_b29 at hf
  exact aFr.tr aFr.rf (hrec4 v1 (v2 + (1 : Int32)) S hf)
theorem F_X9_split_1_b4 {N : Nat} {rec4 : Int32 → Int32 → aSt → Option (aSt)} (hrec4 : ∀ (v1 : Int32) (v2 : Int32) (S : aSt) {r : aSt}, rec4 v1 v2 S = (some r) → aFr W_X9_split_1 S r) (v1 : Int32) (v2 : Int32) (S : aSt) {r : aSt} (hf : X9_split_1_b4 N rec4 v1 v2 S = (some r)) : aFr W_X9_split_1 S r := by
  unfold X9_split_1_b4 at hf
  rcases aIfE hf with ⟨-, hf⟩ | ⟨-, hf⟩
  · exact aFr.tr aFr.rf (F_X9_split_1_b35 v1 S hf)
  · obtain ⟨w8, ew9, hf⟩ := aLetE hf
    rcases aIfE hf with ⟨-, hf⟩ | ⟨-, hf⟩
    · exact aFr.tr aFr.rf (F_X9_split_1_b29 hrec4 v1 v2 S hf)
    · obtain ⟨w11, ew12, hf⟩ := aBnE hf
      have hw11 : aFr W_X9_split_1 S w11 := aFr.tr aFr.rf ((F_X9_setToken_1 N v1 v2 S ew12).mono (by decide))
      exact aFr.tr hw11 (F_X9_split_1_b29 hrec4 (v1 + (1 : Int32)) v2 w11 hf)
theorem F_X9_split_1_l4 {N : Nat} : ∀ (n : Nat) (v1 : Int32) (v2 : Int32) (S : aSt) {r : aSt}, X9_split_1_l4 N n v1 v2 S = (some r) → aFr W_X9_split_1 S r
  | 0, _, _, _, _, h => nomatch (show (none : Option (aSt)) = some _ from h)
  | n + 1, v1, v2, S, _, h => F_X9_split_1_b4 (fun v1 v2 S _ h => F_X9_split_1_l4 n v1 v2 S h) v1 v2 S h
theorem F_X9_split_1 (N : Nat) (S : aSt) {r : aSt} (hf : X9_split_1 N S = (some r)) : aFr W_X9_split_1 S r := by
  unfold X9_split_1 at hf
  exact aFr.tr aFr.rf (F_X9_split_1_l4 N (0 : Int32) (0 : Int32) S hf)
def W_X6_set_6 : aWr := ([], [], [6])
theorem F_X6_set_6 (a1 : Int32) (a2 : Int32) (S : aSt) {r : aSt} (hf : X6_set_6 a1 a2 S = r) : aFr W_X6_set_6 S r := by
  unfold X6_set_6 at hf
  rcases aIfE hf with ⟨-, hf⟩ | ⟨-, hf⟩
  · subst hf
    exact aFr.rf
  · rcases aIfE hf with ⟨-, hf⟩ | ⟨-, hf⟩
    · subst hf
      exact aFr.rf
    · subst hf
      exact (aFr.A aFr.rf 6 _ (by decide))
def W_X6_set_7 : aWr := ([], [], [7])
theorem F_X6_set_7 (a1 : Int32) (a2 : Int32) (S : aSt) {r : aSt} (hf : X6_set_7 a1 a2 S = r) : aFr W_X6_set_7 S r := by
  unfold X6_set_7 at hf
  rcases aIfE hf with ⟨-, hf⟩ | ⟨-, hf⟩
  · subst hf
    exact aFr.rf
  · rcases aIfE hf with ⟨-, hf⟩ | ⟨-, hf⟩
    · subst hf
      exact aFr.rf
    · subst hf
      exact (aFr.A aFr.rf 7 _ (by decide))
def W_X9_takeNumber_1 : aWr := ([(1, 8)], [], [7])
theorem F_X9_takeNumber_1 (a1 : Int32) (a2 : Int32) (a3 : Int32) (a4 : Int32) (S : aSt) {r : Int32 × aSt} (hf : X9_takeNumber_1 a1 a2 a3 a4 S = r) : aFr W_X9_takeNumber_1 S r.2 := by
  unfold X9_takeNumber_1 at hf
  obtain ⟨w1, ew2, hf⟩ := aLetE hf
  obtain ⟨w3, ew4, hf⟩ := aLetE hf
  rcases aIfE hf with ⟨-, hf⟩ | ⟨-, hf⟩
  · rcases aIfE hf with ⟨-, hf⟩ | ⟨-, hf⟩
    · subst hf
      exact aFr.rf
    · rcases aIfE hf with ⟨-, hf⟩ | ⟨-, hf⟩
      · obtain ⟨w8, ew9, hf⟩ := aLetE hf
        have hw8 : aFr W_X9_takeNumber_1 S w8 := aFr.tr aFr.rf ((F_X6_set_7 ((a1 * (4 : Int32)) + a2) w1 S ew9).mono (by decide))
        subst hf
        exact (aFr.I hw8 1 8 _ (by decide))
      · subst hf
        exact aFr.rf
  · subst hf
    exact aFr.rf
def W_X9_readDue_1 : aWr := ([(1, 8)], [], [7])
theorem F_X9_readDue_1_b32 (v1 : Int32) (v2 : Int32) (S : aSt) {r : Int32 × aSt} (hf : X9_readDue_1_b32 v1 v2 S = r) : aFr W_X9_readDue_1 S r.2 := by
  unfold X9_readDue_1_b32 at hf
  obtain ⟨w4, ew5, hf⟩ := aLetE hf
  have hw4 : aFr W_X9_readDue_1 S w4 := aFr.tr aFr.rf ((F_X6_set_7 ((v1 * (4 : Int32)) + (1 : Int32)) v2 S ew5).mono (by decide))
  rcases aIfE hf with ⟨-, hf⟩ | ⟨-, hf⟩
  · subst hf
    exact (aFr.I hw4 1 8 _ (by decide))
  · obtain ⟨w7, ew8, hf⟩ := aLetE hf
    have hw7 : aFr W_X9_readDue_1 S w7.2 := aFr.tr (aFr.I hw4 1 8 _ (by decide)) ((F_X9_takeNumber_1 v1 (2 : Int32) (0 : Int32) (999999 : Int32) (aI w4 1 8 ((w4.1 1 8) + (1 : Int32))) ew8).mono (by decide))
    rcases aIfE hf with ⟨-, hf⟩ | ⟨-, hf⟩
    · subst hf
      exact hw7
    · subst hf
      exact hw7
theorem F_X9_readDue_1 (a1 : Int32) (S : aSt) {r : Int32 × aSt} (hf : X9_readDue_1 a1 S = r) : aFr W_X9_readDue_1 S r.2 := by
  unfold X9_readDue_1 at hf
  obtain ⟨w1, ew2, hf⟩ := aLetE hf
  rcases aIfE hf with ⟨-, hf⟩ | ⟨-, hf⟩
  · exact aFr.tr aFr.rf (F_X9_readDue_1_b32 a1 w1 S hf)
  · rcases aIfE hf with ⟨-, hf⟩ | ⟨-, hf⟩
    · exact aFr.tr aFr.rf (F_X9_readDue_1_b32 a1 w1 S hf)
    · rcases aIfE hf with ⟨-, hf⟩ | ⟨-, hf⟩
      · exact aFr.tr aFr.rf (F_X9_readDue_1_b32 a1 w1 S hf)
      · subst hf
        exact aFr.rf
def W_X9_readLine_1 : aWr := ([(1, 8)], [], [6, 7])
theorem F_X9_readLine_1 (N : Nat) (a1 : Int32) (S : aSt) {r : Int32 × aSt} (hf : X9_readLine_1 N a1 S = (some r)) : aFr W_X9_readLine_1 S r.2 := by
  unfold X9_readLine_1 at hf
  obtain ⟨w1, ew2, hf⟩ := aLetE hf
  rcases aIfE hf with ⟨-, hf⟩ | ⟨-, hf⟩
  · have e9 := Option.some.inj hf; subst e9
    exact aFr.rf
  · rcases aIfE hf with ⟨-, hf⟩ | ⟨-, hf⟩
    · obtain ⟨w5, ew6, hf⟩ := aLetE hf
      have hw5 : aFr W_X9_readLine_1 S w5 := aFr.tr aFr.rf ((F_X6_set_6 a1 w1 S ew6).mono (by decide))
      rcases aTswE hf with ⟨-, hf⟩ | ⟨-, hf⟩
      · obtain ⟨w8, ew9, hf⟩ := aLetE hf
        have hw8 : aFr W_X9_readLine_1 S w8.2 := aFr.tr (aFr.I hw5 1 8 _ (by decide)) ((F_X9_takeNumber_1 a1 (0 : Int32) (0 : Int32) (99 : Int32) (aI w5 1 8 ((w5.1 1 8) + (1 : Int32))) ew9).mono (by decide))
        obtain ⟨-, hf⟩ := aGdE hf
        have e9 := Option.some.inj hf; subst e9
        exact hw8
      · rcases aIfE hf with ⟨-, hf⟩ | ⟨-, hf⟩
        · obtain ⟨w12, ew13, hf⟩ := aLetE hf
          have hw12 : aFr W_X9_readLine_1 S w12.2 := aFr.tr (aFr.I hw5 1 8 _ (by decide)) ((F_X9_takeNumber_1 a1 (0 : Int32) (1 : Int32) (999999 : Int32) (aI w5 1 8 ((w5.1 1 8) + (1 : Int32))) ew13).mono (by decide))
          rcases aIfE hf with ⟨-, hf⟩ | ⟨-, hf⟩
          · have e9 := Option.some.inj hf; subst e9
            exact hw12
          · obtain ⟨w15, ew16, hf⟩ := aLetE hf
            have hw15 : aFr W_X9_readLine_1 S w15.2 := aFr.tr hw12 ((F_X9_takeNumber_1 a1 (1 : Int32) (0 : Int32) (7 : Int32) w12.2 ew16).mono (by decide))
            rcases aIfE hf with ⟨-, hf⟩ | ⟨-, hf⟩
            · have e9 := Option.some.inj hf; subst e9
              exact hw15
            · obtain ⟨w18, ew19, hf⟩ := aLetE hf
              have hw18 : aFr W_X9_readLine_1 S w18.2 := aFr.tr hw15 ((F_X9_takeNumber_1 a1 (2 : Int32) (0 : Int32) (3 : Int32) w15.2 ew19).mono (by decide))
              rcases aIfE hf with ⟨-, hf⟩ | ⟨-, hf⟩
              · have e9 := Option.some.inj hf; subst e9
                exact hw18
              · obtain ⟨w21, ew22, hf⟩ := aLetE hf
                have hw21 : aFr W_X9_readLine_1 S w21.2 := aFr.tr hw18 ((F_X9_takeNumber_1 a1 (3 : Int32) (0 : Int32) (5 : Int32) w18.2 ew22).mono (by decide))
                rcases aIfE hf with ⟨-, hf⟩ | ⟨-, hf⟩
                · have e9 := Option.some.inj hf; subst e9
                  exact hw21
                · have e9 := Option.some.inj hf; subst e9
                  exact hw21
        · rcases aIfE hf with ⟨-, hf⟩ | ⟨-, hf⟩
          · obtain ⟨w25, ew26, hf⟩ := aLetE hf
            have hw25 : aFr W_X9_readLine_1 S w25.2 := aFr.tr (aFr.I hw5 1 8 _ (by decide)) ((F_X9_takeNumber_1 a1 (0 : Int32) (1 : Int32) (999999 : Int32) (aI w5 1 8 ((w5.1 1 8) + (1 : Int32))) ew26).mono (by decide))
            rcases aIfE hf with ⟨-, hf⟩ | ⟨-, hf⟩
            · have e9 := Option.some.inj hf; subst e9
              exact hw25
            · obtain ⟨w28, ew29, hf⟩ := aLetE hf
              have hw28 : aFr W_X9_readLine_1 S w28.2 := aFr.tr hw25 ((F_X9_takeNumber_1 a1 (1 : Int32) (0 : Int32) (7 : Int32) w25.2 ew29).mono (by decide))
              rcases aIfE hf with ⟨-, hf⟩ | ⟨-, hf⟩
              · have e9 := Option.some.inj hf; subst e9
                exact hw28
              · obtain ⟨w31, ew32, hf⟩ := aLetE hf
                have hw31 : aFr W_X9_readLine_1 S w31.2 := aFr.tr hw28 ((F_X9_takeNumber_1 a1 (2 : Int32) (0 : Int32) (3 : Int32) w28.2 ew32).mono (by decide))
                rcases aIfE hf with ⟨-, hf⟩ | ⟨-, hf⟩
                · have e9 := Option.some.inj hf; subst e9
                  exact hw31
                · obtain ⟨w34, ew35, hf⟩ := aLetE hf
                  have hw34 : aFr W_X9_readLine_1 S w34.2 := aFr.tr hw31 ((F_X9_takeNumber_1 a1 (3 : Int32) (0 : Int32) (5 : Int32) w31.2 ew35).mono (by decide))
                  rcases aIfE hf with ⟨-, hf⟩ | ⟨-, hf⟩
                  · have e9 := Option.some.inj hf; subst e9
                    exact hw34
                  · have e9 := Option.some.inj hf; subst e9
                    exact hw34
          · rcases aIfE hf with ⟨-, hf⟩ | ⟨-, hf⟩
            · obtain ⟨w38, ew39, hf⟩ := aLetE hf
              have hw38 : aFr W_X9_readLine_1 S w38.2 := aFr.tr (aFr.I hw5 1 8 _ (by decide)) ((F_X9_takeNumber_1 a1 (0 : Int32) (0 : Int32) (3 : Int32) (aI w5 1 8 ((w5.1 1 8) + (1 : Int32))) ew39).mono (by decide))
              rcases aIfE hf with ⟨-, hf⟩ | ⟨-, hf⟩
              · have e9 := Option.some.inj hf; subst e9
                exact hw38
              · obtain ⟨w41, ew42, hf⟩ := aLetE hf
                have hw41 : aFr W_X9_readLine_1 S w41.2 := aFr.tr hw38 ((F_X9_takeNumber_1 a1 (1 : Int32) (0 : Int32) (4 : Int32) w38.2 ew42).mono (by decide))
                rcases aIfE hf with ⟨-, hf⟩ | ⟨-, hf⟩
                · have e9 := Option.some.inj hf; subst e9
                  exact hw41
                · obtain ⟨w44, ew45, hf⟩ := aLetE hf
                  have hw44 : aFr W_X9_readLine_1 S w44.2 := aFr.tr hw41 ((F_X9_takeNumber_1 a1 (2 : Int32) (0 : Int32) (99 : Int32) w41.2 ew45).mono (by decide))
                  rcases aIfE hf with ⟨-, hf⟩ | ⟨-, hf⟩
                  · have e9 := Option.some.inj hf; subst e9
                    exact hw44
                  · have e9 := Option.some.inj hf; subst e9
                    exact hw44
            · rcases aIfE hf with ⟨-, hf⟩ | ⟨-, hf⟩
              · obtain ⟨w48, ew49, hf⟩ := aLetE hf
                have hw48 : aFr W_X9_readLine_1 S w48.2 := aFr.tr (aFr.I hw5 1 8 _ (by decide)) ((F_X9_takeNumber_1 a1 (0 : Int32) (0 : Int32) (9 : Int32) (aI w5 1 8 ((w5.1 1 8) + (1 : Int32))) ew49).mono (by decide))
                rcases aIfE hf with ⟨-, hf⟩ | ⟨-, hf⟩
                · have e9 := Option.some.inj hf; subst e9
                  exact hw48
                · obtain ⟨w51, ew52, hf⟩ := aLetE hf
                  obtain ⟨w53, ew54, hf⟩ := aLetE hf
                  rcases aIfE hf with ⟨-, hf⟩ | ⟨-, hf⟩
                  · have e9 := Option.some.inj hf; subst e9
                    exact hw48
                  · obtain ⟨w56, ew57, hf⟩ := aLetE hf
                    have hw56 : aFr W_X9_readLine_1 S w56.2 := aFr.tr hw48 ((F_X9_takeNumber_1 a1 (1 : Int32) (0 : Int32) (9 : Int32) w48.2 ew57).mono (by decide))
                    rcases aIfE hf with ⟨-, hf⟩ | ⟨-, hf⟩
                    · have e9 := Option.some.inj hf; subst e9
                      exact hw56
                    · obtain ⟨w59, ew60, hf⟩ := aLetE hf
                      have hw59 : aFr W_X9_readLine_1 S w59.2 := aFr.tr hw56 ((F_X9_takeNumber_1 a1 (2 : Int32) (0 : Int32) (99 : Int32) w56.2 ew60).mono (by decide))
                      rcases aIfE hf with ⟨-, hf⟩ | ⟨-, hf⟩
                      · have e9 := Option.some.inj hf; subst e9
                        exact hw59
                      · have e9 := Option.some.inj hf; subst e9
                        exact hw59
              · rcases aIfE hf with ⟨-, hf⟩ | ⟨-, hf⟩
                · obtain ⟨w63, ew64, hf⟩ := aLetE hf
                  have hw63 : aFr W_X9_readLine_1 S w63.2 := aFr.tr (aFr.I hw5 1 8 _ (by decide)) ((F_X9_takeNumber_1 a1 (0 : Int32) (0 : Int32) (99 : Int32) (aI w5 1 8 ((w5.1 1 8) + (1 : Int32))) ew64).mono (by decide))
                  obtain ⟨-, hf⟩ := aGdE hf
                  have e9 := Option.some.inj hf; subst e9
                  exact hw63
                · rcases aIfE hf with ⟨-, hf⟩ | ⟨-, hf⟩
                  · obtain ⟨w67, ew68, hf⟩ := aLetE hf
                    have hw67 : aFr W_X9_readLine_1 S w67.2 := aFr.tr (aFr.I hw5 1 8 _ (by decide)) ((F_X9_takeNumber_1 a1 (0 : Int32) (0 : Int32) (99 : Int32) (aI w5 1 8 ((w5.1 1 8) + (1 : Int32))) ew68).mono (by decide))
                    obtain ⟨-, hf⟩ := aGdE hf
                    have e9 := Option.some.inj hf; subst e9
                    exact hw67
                  · rcases aIfE hf with ⟨-, hf⟩ | ⟨-, hf⟩
                    · obtain ⟨w71, ew72, hf⟩ := aLetE hf
                      have hw71 : aFr W_X9_readLine_1 S w71.2 := aFr.tr (aFr.I hw5 1 8 _ (by decide)) ((F_X9_takeNumber_1 a1 (0 : Int32) (0 : Int32) (99 : Int32) (aI w5 1 8 ((w5.1 1 8) + (1 : Int32))) ew72).mono (by decide))
                      obtain ⟨-, hf⟩ := aGdE hf
                      have e9 := Option.some.inj hf; subst e9
                      exact hw71
                    · rcases aIfE hf with ⟨-, hf⟩ | ⟨-, hf⟩
                      · obtain ⟨w75, ew76, hf⟩ := aLetE hf
                        have hw75 : aFr W_X9_readLine_1 S w75.2 := aFr.tr (aFr.I hw5 1 8 _ (by decide)) ((F_X9_takeNumber_1 a1 (0 : Int32) (0 : Int32) (5 : Int32) (aI w5 1 8 ((w5.1 1 8) + (1 : Int32))) ew76).mono (by decide))
                        rcases aIfE hf with ⟨-, hf⟩ | ⟨-, hf⟩
                        · have e9 := Option.some.inj hf; subst e9
                          exact hw75
                        · obtain ⟨w78, ew79, hf⟩ := aLetE hf
                          have hw78 : aFr W_X9_readLine_1 S w78.2 := aFr.tr hw75 ((F_X9_readDue_1 a1 w75.2 ew79).mono (by decide))
                          rcases aIfE hf with ⟨-, hf⟩ | ⟨-, hf⟩
                          · have e9 := Option.some.inj hf; subst e9
                            exact hw78
                          · have e9 := Option.some.inj hf; subst e9
                            exact hw78
                      · cases hf
    · have e9 := Option.some.inj hf; subst e9
      exact aFr.rf
def W_X9_read_1 : aWr := ([(1, 1), (1, 8)], [], [3, 4, 5, 6, 7])
theorem F_X9_read_1_b112 {N : Nat} (S : aSt) {r : Int32 × aSt} (hf : X9_read_1_b112 N S = (some r)) : aFr W_X9_read_1 S r.2 := by
  unfold X9_read_1_b112 at hf
  obtain ⟨w4, ew5, hf⟩ := aLetE hf
  have e9 := Option.some.inj hf; subst e9
  exact aFr.rf
theorem F_X9_read_1_b84 {N : Nat} (S : aSt) {r : Int32 × aSt} (hf : X9_read_1_b84 N S = (some r)) : aFr W_X9_read_1 S r.2 := by
  unfold X9_read_1_b84 at hf
  obtain ⟨w13, ew14, hf⟩ := aLetE hf
  have e9 := Option.some.inj hf; subst e9
  exact aFr.rf
theorem F_X9_read_1_b30 {N : Nat} (S : aSt) {r : Int32 × aSt} (hf : X9_read_1_b30 N S = (some r)) : aFr W_X9_read_1 S r.2 := by
  unfold X9_read_1_b30 at hf
  obtain ⟨w16, ew17, hf⟩ := aLetE hf
  have e9 := Option.some.inj hf; subst e9
  exact aFr.rf
theorem F_X9_read_1_b16 {N : Nat} {rec16 : Int32 → aSt → Option (Int32 × aSt)} (hrec16 : ∀ (v1 : Int32) (S : aSt) {r : Int32 × aSt}, rec16 v1 S = (some r) → aFr W_X9_read_1 S r.2) (v1 : Int32) (S : aSt) {r : Int32 × aSt} (hf : X9_read_1_b16 N rec16 v1 S = (some r)) : aFr W_X9_read_1 S r.2 := by
  unfold X9_read_1_b16 at hf
  rcases aIfE hf with ⟨-, hf⟩ | ⟨-, hf⟩
  · exact aFr.tr aFr.rf (F_X9_read_1_b112 S hf)
  · obtain ⟨w6, ew7, hf⟩ := aBnE hf
    have hw6 : aFr W_X9_read_1 S w6.2 := aFr.tr aFr.rf ((F_X9_readLine_1 N v1 S ew7).mono (by decide))
    rcases aIfE hf with ⟨-, hf⟩ | ⟨-, hf⟩
    · exact aFr.tr hw6 (F_X9_read_1_b30 w6.2 hf)
    · obtain ⟨w9, ew10, hf⟩ := aLetE hf
      rcases aIfE hf with ⟨-, hf⟩ | ⟨-, hf⟩
      · have e9 := Option.some.inj hf; subst e9
        exact (aFr.I hw6 1 1 _ (by decide))
      · rcases aIfE hf with ⟨-, hf⟩ | ⟨-, hf⟩
        · rcases aIfE hf with ⟨-, hf⟩ | ⟨-, hf⟩
          · exact aFr.tr (aFr.I hw6 1 1 _ (by decide)) (F_X9_read_1_b84 (aI w6.2 1 1 ((w6.2.1 1 1) + (1 : Int32))) hf)
          · exact aFr.tr (aFr.I (aFr.I hw6 1 1 _ (by decide)) 1 8 _ (by decide)) (hrec16 (v1 + (1 : Int32)) (aI (aI w6.2 1 1 ((w6.2.1 1 1) + (1 : Int32))) 1 8 ((w6.2.1 1 8) + (1 : Int32))) hf)
        · exact aFr.tr (aFr.I hw6 1 1 _ (by decide)) (F_X9_read_1_b84 (aI w6.2 1 1 ((w6.2.1 1 1) + (1 : Int32))) hf)
theorem F_X9_read_1_l16 {N : Nat} : ∀ (n : Nat) (v1 : Int32) (S : aSt) {r : Int32 × aSt}, X9_read_1_l16 N n v1 S = (some r) → aFr W_X9_read_1 S r.2
  | 0, _, _, _, h => nomatch (show (none : Option (Int32 × aSt)) = some _ from h)
  | n + 1, v1, S, _, h => F_X9_read_1_b16 (fun v1 S _ h => F_X9_read_1_l16 n v1 S h) v1 S h
theorem F_X9_read_1 (N : Nat) (S : aSt) {r : Int32 × aSt} (hf : X9_read_1 N S = (some r)) : aFr W_X9_read_1 S r.2 := by
  unfold X9_read_1 at hf
  obtain ⟨w1, ew2, hf⟩ := aBnE hf
  have hw1 : aFr W_X9_read_1 S w1 := aFr.tr aFr.rf ((F_X9_split_1 N  S ew2).mono (by decide))
  exact aFr.tr (aFr.I (aFr.I hw1 1 8 _ (by decide)) 1 1 _ (by decide)) (F_X9_read_1_l16 N (0 : Int32) (aI (aI w1 1 8 (0 : Int32)) 1 1 (0 : Int32)) hf)
def W_X6_set_9 : aWr := ([], [], [9])
theorem F_X6_set_9 (a1 : Int32) (a2 : Int32) (S : aSt) {r : aSt} (hf : X6_set_9 a1 a2 S = r) : aFr W_X6_set_9 S r := by
  unfold X6_set_9 at hf
  rcases aIfE hf with ⟨-, hf⟩ | ⟨-, hf⟩
  · subst hf
    exact aFr.rf
  · rcases aIfE hf with ⟨-, hf⟩ | ⟨-, hf⟩
    · subst hf
      exact aFr.rf
    · subst hf
      exact (aFr.A aFr.rf 9 _ (by decide))
def W_X2_setPart_8 : aWr := ([], [], [9])
theorem F_X2_setPart_8 (a1 : Int32) (a2 : Int32) (a3 : Int32) (S : aSt) {r : aSt} (hf : X2_setPart_8 a1 a2 a3 S = r) : aFr W_X2_setPart_8 S r := by
  unfold X2_setPart_8 at hf
  obtain ⟨w1, ew2, hf⟩ := aLetE hf
  have hw1 : aFr W_X2_setPart_8 S w1 := aFr.tr aFr.rf ((F_X6_set_9 ((a1 * (5 : Int32)) + a2) a3 S ew2).mono (by decide))
  subst hf
  exact hw1
def W_X2_add_8_1 : aWr := ([(8, 0)], [], [9])
theorem F_X2_add_8_1 (a1 : Int32) (a3 : Int32) (S : aSt) {r : aSt} (hf : X2_add_8_1 a1 a3 S = r) : aFr W_X2_add_8_1 S r := by
  unfold X2_add_8_1 at hf
  rcases aIfE hf with ⟨-, hf⟩ | ⟨-, hf⟩
  · obtain ⟨w2, ew3, hf⟩ := aLetE hf
    have hw2 : aFr W_X2_add_8_1 S w2 := aFr.tr aFr.rf ((F_X2_setPart_8 (S.1 8 0) (0 : Int32) a1 S ew3).mono (by decide))
    obtain ⟨w4, ew5, hf⟩ := aLetE hf
    obtain ⟨w6, ew7, hf⟩ := aLetE hf
    have hw6 : aFr W_X2_add_8_1 S w6 := aFr.tr hw2 ((F_X2_setPart_8 (w2.1 8 0) (1 : Int32) w4 w2 ew7).mono (by decide))
    obtain ⟨w8, ew9, hf⟩ := aLetE hf
    obtain ⟨w10, ew11, hf⟩ := aLetE hf
    have hw10 : aFr W_X2_add_8_1 S w10 := aFr.tr hw6 ((F_X2_setPart_8 (w6.1 8 0) (2 : Int32) w8 w6 ew11).mono (by decide))
    obtain ⟨w12, ew13, hf⟩ := aLetE hf
    obtain ⟨w14, ew15, hf⟩ := aLetE hf
    have hw14 : aFr W_X2_add_8_1 S w14 := aFr.tr hw10 ((F_X2_setPart_8 (w10.1 8 0) (3 : Int32) w12 w10 ew15).mono (by decide))
    obtain ⟨w16, ew17, hf⟩ := aLetE hf
    obtain ⟨w18, ew19, hf⟩ := aLetE hf
    have hw18 : aFr W_X2_add_8_1 S w18 := aFr.tr hw14 ((F_X2_setPart_8 (w14.1 8 0) (4 : Int32) w16 w14 ew19).mono (by decide))
    subst hf
    exact (aFr.I hw18 8 0 _ (by decide))
  · subst hf
    exact aFr.rf
def W_X6_set_10 : aWr := ([], [], [10])
theorem F_X6_set_10 (a1 : Int32) (a2 : Int32) (S : aSt) {r : aSt} (hf : X6_set_10 a1 a2 S = r) : aFr W_X6_set_10 S r := by
  unfold X6_set_10 at hf
  rcases aIfE hf with ⟨-, hf⟩ | ⟨-, hf⟩
  · subst hf
    exact aFr.rf
  · rcases aIfE hf with ⟨-, hf⟩ | ⟨-, hf⟩
    · subst hf
      exact aFr.rf
    · subst hf
      exact (aFr.A aFr.rf 10 _ (by decide))
def W_X2_setOdds_8 : aWr := ([(8, 4)], [], [10])
theorem F_X2_setOdds_8 (a1 : Int32) (a2 : Int32) (a3 : Int32) (S : aSt) {r : aSt} (hf : X2_setOdds_8 a1 a2 a3 S = r) : aFr W_X2_setOdds_8 S r := by
  unfold X2_setOdds_8 at hf
  obtain ⟨w1, ew2, hf⟩ := aLetE hf
  have hw1 : aFr W_X2_setOdds_8 S w1 := aFr.tr aFr.rf ((F_X6_set_10 ((a1 * (5 : Int32)) + a2) a3 S ew2).mono (by decide))
  subst hf
  exact (aFr.I hw1 8 4 _ (by decide))
def W_X6_set_11 : aWr := ([], [], [11])
theorem F_X6_set_11 (a1 : Int32) (a2 : Int32) (S : aSt) {r : aSt} (hf : X6_set_11 a1 a2 S = r) : aFr W_X6_set_11 S r := by
  unfold X6_set_11 at hf
  rcases aIfE hf with ⟨-, hf⟩ | ⟨-, hf⟩
  · subst hf
    exact aFr.rf
  · rcases aIfE hf with ⟨-, hf⟩ | ⟨-, hf⟩
    · subst hf
      exact aFr.rf
    · subst hf
      exact (aFr.A aFr.rf 11 _ (by decide))
def W_X6_set_12 : aWr := ([], [], [12])
theorem F_X6_set_12 (a1 : Int32) (a2 : Int32) (S : aSt) {r : aSt} (hf : X6_set_12 a1 a2 S = r) : aFr W_X6_set_12 S r := by
  unfold X6_set_12 at hf
  rcases aIfE hf with ⟨-, hf⟩ | ⟨-, hf⟩
  · subst hf
    exact aFr.rf
  · rcases aIfE hf with ⟨-, hf⟩ | ⟨-, hf⟩
    · subst hf
      exact aFr.rf
    · subst hf
      exact (aFr.A aFr.rf 12 _ (by decide))
def W_X2_setDue_8 : aWr := ([], [], [12, 13])
theorem F_X2_setDue_8_b48 {N : Nat} (s0 : Int32) (s1 : Int32) (S : aSt) {r : aSt} (hf : X2_setDue_8_b48 N s0 s1 S = (some r)) : aFr W_X2_setDue_8 S r := by
  unfold X2_setDue_8_b48 at hf
  obtain ⟨w7, ew8, hf⟩ := aLetE hf
  have hw7 : aFr W_X2_setDue_8 S w7 := aFr.tr aFr.rf ((F_X6_set_12 s1 s0 S ew8).mono (by decide))
  have e9 := Option.some.inj hf; subst e9
  exact hw7
theorem F_X2_setDue_8_b30 {N : Nat} (v1 : Int32) (v2 : Int32) (v3 : Int32) (s0 : Int32) (s1 : Int32) (S : aSt) {r : aSt} (hf : X2_setDue_8_b30 N v1 v2 v3 s0 s1 S = (some r)) : aFr W_X2_setDue_8 S r := by
  unfold X2_setDue_8_b30 at hf
  obtain ⟨-, hf⟩ := aGdE hf
  obtain ⟨-, hf⟩ := aGdE hf
  rcases aIfE hf with ⟨-, hf⟩ | ⟨-, hf⟩
  · exact aFr.tr (aFr.A aFr.rf 13 _ (by decide)) (F_X2_setDue_8_b48 (-v3) v1 (aA S 13 (upd (S.2.2 13) s1.toNatClampNeg s0)) hf)
  · exact aFr.tr (aFr.A aFr.rf 13 _ (by decide)) (F_X2_setDue_8_b48 v3 v1 (aA S 13 (upd (S.2.2 13) s1.toNatClampNeg s0)) hf)
theorem F_X2_setDue_8 (N : Nat) (a1 : Int32) (a2 : Int32) (a3 : Int32) (S : aSt) {r : aSt} (hf : X2_setDue_8 N a1 a2 a3 S = (some r)) : aFr W_X2_setDue_8 S r := by
  unfold X2_setDue_8 at hf
  rcases aIfE hf with ⟨-, hf⟩ | ⟨-, hf⟩
  · have e9 := Option.some.inj hf; subst e9
    exact aFr.rf
  · rcases aIfE hf with ⟨-, hf⟩ | ⟨-, hf⟩
    · rcases aIfE hf with ⟨-, hf⟩ | ⟨-, hf⟩
      · exact aFr.tr aFr.rf (F_X2_setDue_8_b30 a1 a2 a3 (0 : Int32) a1 S hf)
      · exact aFr.tr aFr.rf (F_X2_setDue_8_b30 a1 a2 a3 (1 : Int32) a1 S hf)
    · have e9 := Option.some.inj hf; subst e9
      exact aFr.rf
def W_X2_takeLine_8_1 : aWr := ([(8, 0), (8, 1), (8, 2), (8, 3), (8, 4)], [], [9, 10, 11, 12, 13])
theorem F_X2_takeLine_8_1 (N : Nat) (a2 : Int32) (S : aSt) {r : aSt} (hf : X2_takeLine_8_1 N a2 S = (some r)) : aFr W_X2_takeLine_8_1 S r := by
  unfold X2_takeLine_8_1 at hf
  obtain ⟨w1, ew2, hf⟩ := aLetE hf
  obtain ⟨w3, ew4, hf⟩ := aLetE hf
  obtain ⟨w5, ew6, hf⟩ := aLetE hf
  rcases aTswE hf with ⟨-, hf⟩ | ⟨-, hf⟩
  · have e9 := Option.some.inj hf; subst e9
    exact aFr.rf
  · rcases aIfE hf with ⟨-, hf⟩ | ⟨-, hf⟩
    · obtain ⟨w9, ew10, hf⟩ := aLetE hf
      have hw9 : aFr W_X2_takeLine_8_1 S w9 := aFr.tr aFr.rf ((F_X2_add_8_1 (0 : Int32) a2 S ew10).mono (by decide))
      have e9 := Option.some.inj hf; subst e9
      exact hw9
    · rcases aIfE hf with ⟨-, hf⟩ | ⟨-, hf⟩
      · obtain ⟨w12, ew13, hf⟩ := aLetE hf
        have hw12 : aFr W_X2_takeLine_8_1 S w12 := aFr.tr aFr.rf ((F_X2_add_8_1 (1 : Int32) a2 S ew13).mono (by decide))
        have e9 := Option.some.inj hf; subst e9
        exact hw12
      · rcases aIfE hf with ⟨-, hf⟩ | ⟨-, hf⟩
        · obtain ⟨w15, ew16, hf⟩ := aLetE hf
          obtain ⟨w17, ew18, hf⟩ := aLetE hf
          have hw17 : aFr W_X2_takeLine_8_1 S w17 := aFr.tr aFr.rf ((F_X2_setOdds_8 w1 w3 w15 S ew18).mono (by decide))
          have e9 := Option.some.inj hf; subst e9
          exact hw17
        · rcases aIfE hf with ⟨-, hf⟩ | ⟨-, hf⟩
          · obtain ⟨w20, ew21, hf⟩ := aLetE hf
            obtain ⟨w22, ew23, hf⟩ := aLetE hf
            have hw22 : aFr W_X2_takeLine_8_1 S w22 := aFr.tr aFr.rf ((F_X6_set_11 ((w1 * (10 : Int32)) + w3) w20 S ew23).mono (by decide))
            have e9 := Option.some.inj hf; subst e9
            exact hw22
          · rcases aIfE hf with ⟨-, hf⟩ | ⟨-, hf⟩
            · have e9 := Option.some.inj hf; subst e9
              exact (aFr.I aFr.rf 8 1 _ (by decide))
            · rcases aIfE hf with ⟨-, hf⟩ | ⟨-, hf⟩
              · have e9 := Option.some.inj hf; subst e9
                exact (aFr.I aFr.rf 8 2 _ (by decide))
              · rcases aIfE hf with ⟨-, hf⟩ | ⟨-, hf⟩
                · have e9 := Option.some.inj hf; subst e9
                  exact (aFr.I aFr.rf 8 3 _ (by decide))
                · rcases aIfE hf with ⟨-, hf⟩ | ⟨-, hf⟩
                  · obtain ⟨w28, ew29, hf⟩ := aLetE hf
                    obtain ⟨w30, ew31, hf⟩ := aBnE hf
                    have hw30 : aFr W_X2_takeLine_8_1 S w30 := aFr.tr aFr.rf ((F_X2_setDue_8 N w1 w3 w28 S ew31).mono (by decide))
                    have e9 := Option.some.inj hf; subst e9
                    exact hw30
                  · cases hf
def W_X2_take_8_1 : aWr := ([(8, 0), (8, 1), (8, 2), (8, 3), (8, 4)], [], [9, 10, 11, 12, 13])
theorem F_X2_take_8_1_b22 {N : Nat} (S : aSt) {r : aSt} (hf : X2_take_8_1_b22 N S = (some r)) : aFr W_X2_take_8_1 S r := by
  unfold X2_take_8_1_b22 at hf
  have e9 := Option.some.inj hf; subst e9
  exact (aFr.I aFr.rf 8 4 _ (by decide))
theorem F_X2_take_8_1_b2 {N : Nat} {rec2 : Int32 → aSt → Option (aSt)} (hrec2 : ∀ (v2 : Int32) (S : aSt) {r : aSt}, rec2 v2 S = (some r) → aFr W_X2_take_8_1 S r) (v2 : Int32) (S : aSt) {r : aSt} (hf : X2_take_8_1_b2 N rec2 v2 S = (some r)) : aFr W_X2_take_8_1 S r := by
  unfold X2_take_8_1_b2 at hf
  rcases aIfE hf with ⟨-, hf⟩ | ⟨-, hf⟩
  · exact aFr.tr aFr.rf (F_X2_take_8_1_b22 S hf)
  · obtain ⟨w2, ew3, hf⟩ := aBnE hf
    have hw2 : aFr W_X2_take_8_1 S w2 := aFr.tr aFr.rf ((F_X2_takeLine_8_1 N v2 S ew3).mono (by decide))
    exact aFr.tr hw2 (hrec2 (v2 + (1 : Int32)) w2 hf)
theorem F_X2_take_8_1_l2 {N : Nat} : ∀ (n : Nat) (v2 : Int32) (S : aSt) {r : aSt}, X2_take_8_1_l2 N n v2 S = (some r) → aFr W_X2_take_8_1 S r
  | 0, _, _, _, h => nomatch (show (none : Option (aSt)) = some _ from h)
  | n + 1, v2, S, _, h => F_X2_take_8_1_b2 (fun v2 S _ h => F_X2_take_8_1_l2 n v2 S h) v2 S h
theorem F_X2_take_8_1 (N : Nat) (S : aSt) {r : aSt} (hf : X2_take_8_1 N S = (some r)) : aFr W_X2_take_8_1 S r := by
  unfold X2_take_8_1 at hf
  exact aFr.tr aFr.rf (F_X2_take_8_1_l2 N (0 : Int32) S hf)
def W_X10_book_0 : aWr := ([(1, 0), (1, 1), (1, 8), (8, 0), (8, 1), (8, 2), (8, 3), (8, 4)], [], [3, 4, 5, 6, 7, 9, 10, 11, 12, 13])
theorem F_X10_book_0 (N : Nat) (S : aSt) {r : Int32 × aSt} (hf : X10_book_0 N S = (some r)) : aFr W_X10_book_0 S r.2 := by
  unfold X10_book_0 at hf
  obtain ⟨w1, ew2, hf⟩ := aBnE hf
  have hw1 : aFr W_X10_book_0 S w1.2 := aFr.tr aFr.rf ((F_X9_read_1 N  S ew2).mono (by decide))
  rcases aIfE hf with ⟨-, hf⟩ | ⟨-, hf⟩
  · obtain ⟨w4, ew5, hf⟩ := aBnE hf
    have hw4 : aFr W_X10_book_0 S w4 := aFr.tr hw1 ((F_X2_take_8_1 N  w1.2 ew5).mono (by decide))
    have e9 := Option.some.inj hf; subst e9
    exact (aFr.I hw4 1 0 _ (by decide))
  · have e9 := Option.some.inj hf; subst e9
    exact hw1
def W_X6_set_15 : aWr := ([], [], [15])
theorem F_X6_set_15 (a1 : Int32) (a2 : Int32) (S : aSt) {r : aSt} (hf : X6_set_15 a1 a2 S = r) : aFr W_X6_set_15 S r := by
  unfold X6_set_15 at hf
  rcases aIfE hf with ⟨-, hf⟩ | ⟨-, hf⟩
  · subst hf
    exact aFr.rf
  · rcases aIfE hf with ⟨-, hf⟩ | ⟨-, hf⟩
    · subst hf
      exact aFr.rf
    · subst hf
      exact (aFr.A aFr.rf 15 _ (by decide))
def W_X6_set_16 : aWr := ([], [], [16])
theorem F_X6_set_16 (a1 : Int32) (a2 : Int32) (S : aSt) {r : aSt} (hf : X6_set_16 a1 a2 S = r) : aFr W_X6_set_16 S r := by
  unfold X6_set_16 at hf
  rcases aIfE hf with ⟨-, hf⟩ | ⟨-, hf⟩
  · subst hf
    exact aFr.rf
  · rcases aIfE hf with ⟨-, hf⟩ | ⟨-, hf⟩
    · subst hf
      exact aFr.rf
    · subst hf
      exact (aFr.A aFr.rf 16 _ (by decide))
def W_X6_set_17 : aWr := ([], [], [17])
theorem F_X6_set_17 (a1 : Int32) (a2 : Int32) (S : aSt) {r : aSt} (hf : X6_set_17 a1 a2 S = r) : aFr W_X6_set_17 S r := by
  unfold X6_set_17 at hf
  rcases aIfE hf with ⟨-, hf⟩ | ⟨-, hf⟩
  · subst hf
    exact aFr.rf
  · rcases aIfE hf with ⟨-, hf⟩ | ⟨-, hf⟩
    · subst hf
      exact aFr.rf
    · subst hf
      exact (aFr.A aFr.rf 17 _ (by decide))
def W_X6_set_18 : aWr := ([], [], [18])
theorem F_X6_set_18 (a1 : Int32) (a2 : Int32) (S : aSt) {r : aSt} (hf : X6_set_18 a1 a2 S = r) : aFr W_X6_set_18 S r := by
  unfold X6_set_18 at hf
  rcases aIfE hf with ⟨-, hf⟩ | ⟨-, hf⟩
  · subst hf
    exact aFr.rf
  · rcases aIfE hf with ⟨-, hf⟩ | ⟨-, hf⟩
    · subst hf
      exact aFr.rf
    · subst hf
      exact (aFr.A aFr.rf 18 _ (by decide))
def W_X6_set_19 : aWr := ([], [], [19])
theorem F_X6_set_19 (a1 : Int32) (a2 : Int32) (S : aSt) {r : aSt} (hf : X6_set_19 a1 a2 S = r) : aFr W_X6_set_19 S r := by
  unfold X6_set_19 at hf
  rcases aIfE hf with ⟨-, hf⟩ | ⟨-, hf⟩
  · subst hf
    exact aFr.rf
  · rcases aIfE hf with ⟨-, hf⟩ | ⟨-, hf⟩
    · subst hf
      exact aFr.rf
    · subst hf
      exact (aFr.A aFr.rf 19 _ (by decide))
def W_X8_put_14 : aWr := ([(14, 0)], [], [15, 16, 17, 18, 19])
theorem F_X8_put_14 (a1 : Int32) (a2 : Int32) (a3 : Int32) (a4 : Int32) (a5 : Int32) (S : aSt) {r : aSt} (hf : X8_put_14 a1 a2 a3 a4 a5 S = r) : aFr W_X8_put_14 S r := by
  unfold X8_put_14 at hf
  rcases aIfE hf with ⟨-, hf⟩ | ⟨-, hf⟩
  · subst hf
    exact aFr.rf
  · rcases aIfE hf with ⟨-, hf⟩ | ⟨-, hf⟩
    · obtain ⟨w3, ew4, hf⟩ := aLetE hf
      have hw3 : aFr W_X8_put_14 S w3 := aFr.tr aFr.rf ((F_X6_set_15 (S.1 14 0) a1 S ew4).mono (by decide))
      obtain ⟨w5, ew6, hf⟩ := aLetE hf
      have hw5 : aFr W_X8_put_14 S w5 := aFr.tr hw3 ((F_X6_set_16 (w3.1 14 0) a2 w3 ew6).mono (by decide))
      obtain ⟨w7, ew8, hf⟩ := aLetE hf
      have hw7 : aFr W_X8_put_14 S w7 := aFr.tr hw5 ((F_X6_set_17 (w5.1 14 0) a3 w5 ew8).mono (by decide))
      obtain ⟨w9, ew10, hf⟩ := aLetE hf
      have hw9 : aFr W_X8_put_14 S w9 := aFr.tr hw7 ((F_X6_set_18 (w7.1 14 0) a4 w7 ew10).mono (by decide))
      obtain ⟨w11, ew12, hf⟩ := aLetE hf
      have hw11 : aFr W_X8_put_14 S w11 := aFr.tr hw9 ((F_X6_set_19 (w9.1 14 0) a5 w9 ew12).mono (by decide))
      subst hf
      exact (aFr.I hw11 14 0 _ (by decide))
    · subst hf
      exact aFr.rf
def W_X8_putMissed_14 : aWr := ([(14, 0)], [], [15, 16, 17, 18, 19])
theorem F_X8_putMissed_14_b27 (v1 : Int32) (v2 : Int32) (s0 : Int32) (s1 : Int32) (S : aSt) {r : aSt} (hf : X8_putMissed_14_b27 v1 v2 s0 s1 S = r) : aFr W_X8_putMissed_14 S r := by
  unfold X8_putMissed_14_b27 at hf
  obtain ⟨w6, ew7, hf⟩ := aLetE hf
  have hw6 : aFr W_X8_putMissed_14 S w6 := aFr.tr aFr.rf ((F_X8_put_14 s1 s0 v2 (-v1) (S.1 8 1) S ew7).mono (by decide))
  subst hf
  exact hw6
theorem F_X8_putMissed_14 (a1 : Int32) (S : aSt) {r : aSt} (hf : X8_putMissed_14 a1 S = r) : aFr W_X8_putMissed_14 S r := by
  unfold X8_putMissed_14 at hf
  obtain ⟨w1, ew2, hf⟩ := aLetE hf
  rcases aIfE hf with ⟨-, hf⟩ | ⟨-, hf⟩
  · subst hf
    exact aFr.rf
  · rcases aIfE hf with ⟨-, hf⟩ | ⟨-, hf⟩
    · subst hf
      exact aFr.rf
    · rcases aIfE hf with ⟨-, hf⟩ | ⟨-, hf⟩
      · exact aFr.tr aFr.rf (F_X8_putMissed_14_b27 a1 w1 (0 : Int32) (5 : Int32) S hf)
      · exact aFr.tr aFr.rf (F_X8_putMissed_14_b27 a1 w1 (1 : Int32) (5 : Int32) S hf)
def W_J7_fill_53178_20 : aWr := ([], [], [20])
theorem F_J7_fill_53178_20_b5 {N : Nat} {rec5 : Int32 → Int32 → Int32 → aSt → Option (aSt)} (hrec5 : ∀ (v1 : Int32) (v2 : Int32) (v3 : Int32) (S : aSt) {r : aSt}, rec5 v1 v2 v3 S = (some r) → aFr W_J7_fill_53178_20 S r) (v1 : Int32) (v2 : Int32) (v3 : Int32) (S : aSt) {r : aSt} (hf : J7_fill_53178_20_b5 N rec5 v1 v2 v3 S = (some r)) : aFr W_J7_fill_53178_20 S r := by
  unfold J7_fill_53178_20_b5 at hf
  rcases aIfE hf with ⟨-, hf⟩ | ⟨-, hf⟩
  · have e9 := Option.some.inj hf; subst e9
    exact aFr.rf
  · obtain ⟨-, hf⟩ := aGdE hf
    exact aFr.tr (aFr.A aFr.rf 20 _ (by decide)) (hrec5 v1 (v2 + (1 : Int32)) v3 (aA S 20 (upd (S.2.2 20) v2.toNatClampNeg v1)) hf)
theorem F_J7_fill_53178_20_l5 {N : Nat} : ∀ (n : Nat) (v1 : Int32) (v2 : Int32) (v3 : Int32) (S : aSt) {r : aSt}, J7_fill_53178_20_l5 N n v1 v2 v3 S = (some r) → aFr W_J7_fill_53178_20 S r
  | 0, _, _, _, _, _, h => nomatch (show (none : Option (aSt)) = some _ from h)
  | n + 1, v1, v2, v3, S, _, h => F_J7_fill_53178_20_b5 (fun v1 v2 v3 S _ h => F_J7_fill_53178_20_l5 n v1 v2 v3 S h) v1 v2 v3 S h
theorem F_J7_fill_53178_20 (N : Nat) (a1 : Int32) (S : aSt) {r : aSt} (hf : J7_fill_53178_20 N a1 S = (some r)) : aFr W_J7_fill_53178_20 S r := by
  unfold J7_fill_53178_20 at hf
  exact aFr.tr aFr.rf (F_J7_fill_53178_20_l5 N a1 (0 : Int32) (1021 : Int32) S hf)
def W_X6_set_21 : aWr := ([], [], [21])
theorem F_X6_set_21 (a1 : Int32) (a2 : Int32) (S : aSt) {r : aSt} (hf : X6_set_21 a1 a2 S = r) : aFr W_X6_set_21 S r := by
  unfold X6_set_21 at hf
  rcases aIfE hf with ⟨-, hf⟩ | ⟨-, hf⟩
  · subst hf
    exact aFr.rf
  · rcases aIfE hf with ⟨-, hf⟩ | ⟨-, hf⟩
    · subst hf
      exact aFr.rf
    · subst hf
      exact (aFr.A aFr.rf 21 _ (by decide))
def W_X6_set_20 : aWr := ([], [], [20])
theorem F_X6_set_20 (a1 : Int32) (a2 : Int32) (S : aSt) {r : aSt} (hf : X6_set_20 a1 a2 S = r) : aFr W_X6_set_20 S r := by
  unfold X6_set_20 at hf
  rcases aIfE hf with ⟨-, hf⟩ | ⟨-, hf⟩
  · subst hf
    exact aFr.rf
  · rcases aIfE hf with ⟨-, hf⟩ | ⟨-, hf⟩
    · subst hf
      exact aFr.rf
    · subst hf
      exact (aFr.A aFr.rf 20 _ (by decide))
def W_X8_chain_14 : aWr := ([], [], [20, 21])
theorem F_X8_chain_14_b15 {N : Nat} {rec15 : Int32 → aSt → Option (aSt)} (hrec15 : ∀ (v1 : Int32) (S : aSt) {r : aSt}, rec15 v1 S = (some r) → aFr W_X8_chain_14 S r) (v1 : Int32) (S : aSt) {r : aSt} (hf : X8_chain_14_b15 N rec15 v1 S = (some r)) : aFr W_X8_chain_14 S r := by
  unfold X8_chain_14_b15 at hf
  rcases aIfE hf with ⟨-, hf⟩ | ⟨-, hf⟩
  · have e9 := Option.some.inj hf; subst e9
    exact aFr.rf
  · obtain ⟨w4, ew5, hf⟩ := aLetE hf
    obtain ⟨w6, ew7, hf⟩ := aBnE hf
    obtain ⟨w8, ew9, hf⟩ := aLetE hf
    obtain ⟨w10, ew11, hf⟩ := aLetE hf
    have hw10 : aFr W_X8_chain_14 S w10 := aFr.tr aFr.rf ((F_X6_set_21 v1 w8 S ew11).mono (by decide))
    obtain ⟨w12, ew13, hf⟩ := aLetE hf
    have hw12 : aFr W_X8_chain_14 S w12 := aFr.tr hw10 ((F_X6_set_20 w6 v1 w10 ew13).mono (by decide))
    exact aFr.tr hw12 (hrec15 (v1 + ((-1) : Int32)) w12 hf)
theorem F_X8_chain_14_l15 {N : Nat} : ∀ (n : Nat) (v1 : Int32) (S : aSt) {r : aSt}, X8_chain_14_l15 N n v1 S = (some r) → aFr W_X8_chain_14 S r
  | 0, _, _, _, h => nomatch (show (none : Option (aSt)) = some _ from h)
  | n + 1, v1, S, _, h => F_X8_chain_14_b15 (fun v1 S _ h => F_X8_chain_14_l15 n v1 S h) v1 S h
theorem F_X8_chain_14 (N : Nat) (S : aSt) {r : aSt} (hf : X8_chain_14 N S = (some r)) : aFr W_X8_chain_14 S r := by
  unfold X8_chain_14 at hf
  obtain ⟨w1, ew2, hf⟩ := aBnE hf
  have hw1 : aFr W_X8_chain_14 S w1 := aFr.tr aFr.rf ((F_J7_fill_53178_20 N ((-1) : Int32) S ew2).mono (by decide))
  exact aFr.tr hw1 (F_X8_chain_14_l15 N ((w1.1 14 0) - (1 : Int32)) w1 hf)
def W_X8_putCarries_14 : aWr := ([(14, 0)], [], [15, 16, 17, 18, 19])
theorem F_X8_putCarries_14_b14 {N : Nat} {rec14 : Int32 → Int32 → aSt → Option (aSt)} (hrec14 : ∀ (v1 : Int32) (v2 : Int32) (S : aSt) {r : aSt}, rec14 v1 v2 S = (some r) → aFr W_X8_putCarries_14 S r) (v1 : Int32) (v2 : Int32) (S : aSt) {r : aSt} (hf : X8_putCarries_14_b14 N rec14 v1 v2 S = (some r)) : aFr W_X8_putCarries_14 S r := by
  unfold X8_putCarries_14_b14 at hf
  rcases aIfE hf with ⟨-, hf⟩ | ⟨-, hf⟩
  · have e9 := Option.some.inj hf; subst e9
    exact aFr.rf
  · obtain ⟨w5, ew6, hf⟩ := aLetE hf
    obtain ⟨w7, ew8, hf⟩ := aLetE hf
    have hw7 : aFr W_X8_putCarries_14 S w7 := aFr.tr aFr.rf ((F_X8_put_14 (6 : Int32) v1 v2 (-w5) (S.1 8 2) S ew8).mono (by decide))
    obtain ⟨w9, ew10, hf⟩ := aLetE hf
    obtain ⟨w11, ew12, hf⟩ := aLetE hf
    have hw11 : aFr W_X8_putCarries_14 S w11 := aFr.tr hw7 ((F_X8_put_14 (6 : Int32) v1 v2 w9 (w7.1 8 2) w7 ew12).mono (by decide))
    exact aFr.tr hw11 (hrec14 v1 (v2 + (1 : Int32)) w11 hf)
theorem F_X8_putCarries_14_l14 {N : Nat} : ∀ (n : Nat) (v1 : Int32) (v2 : Int32) (S : aSt) {r : aSt}, X8_putCarries_14_l14 N n v1 v2 S = (some r) → aFr W_X8_putCarries_14 S r
  | 0, _, _, _, _, h => nomatch (show (none : Option (aSt)) = some _ from h)
  | n + 1, v1, v2, S, _, h => F_X8_putCarries_14_b14 (fun v1 v2 S _ h => F_X8_putCarries_14_l14 n v1 v2 S h) v1 v2 S h
theorem F_X8_putCarries_14 (N : Nat) (a1 : Int32) (S : aSt) {r : aSt} (hf : X8_putCarries_14 N a1 S = (some r)) : aFr W_X8_putCarries_14 S r := by
  unfold X8_putCarries_14 at hf
  obtain ⟨w1, ew2, hf⟩ := aBnE hf
  rcases aIfE hf with ⟨-, hf⟩ | ⟨-, hf⟩
  · have e9 := Option.some.inj hf; subst e9
    exact aFr.rf
  · exact aFr.tr aFr.rf (F_X8_putCarries_14_l14 N a1 (1 : Int32) S hf)
def W_X8_putSum_14 : aWr := ([(14, 0)], [], [15, 16, 17, 18, 19])
theorem F_X8_putSum_14_b42 (v4 : Int32) (s0 : Int32) (s1 : Int32) (s2 : Int32) (s3 : Int32) (S : aSt) {r : aSt} (hf : X8_putSum_14_b42 v4 s0 s1 s2 s3 S = r) : aFr W_X8_putSum_14 S r := by
  unfold X8_putSum_14_b42 at hf
  obtain ⟨w7, ew8, hf⟩ := aLetE hf
  have hw7 : aFr W_X8_putSum_14 S w7 := aFr.tr aFr.rf ((F_X8_put_14 s3 s2 s1 s0 v4 S ew8).mono (by decide))
  subst hf
  exact hw7
theorem F_X8_putSum_14 (a1 : Int32) (a2 : Int32) (a3 : Int32) (a4 : Int32) (S : aSt) {r : aSt} (hf : X8_putSum_14 a1 a2 a3 a4 S = r) : aFr W_X8_putSum_14 S r := by
  unfold X8_putSum_14 at hf
  rcases aIfE hf with ⟨-, hf⟩ | ⟨-, hf⟩
  · subst hf
    exact aFr.rf
  · obtain ⟨w2, ew3, hf⟩ := aLetE hf
    obtain ⟨w4, ew5, hf⟩ := aLetE hf
    rcases aIfE hf with ⟨-, hf⟩ | ⟨-, hf⟩
    · exact aFr.tr aFr.rf (F_X8_putSum_14_b42 a4 (a3 - w2) a3 a2 a1 S hf)
    · exact aFr.tr aFr.rf (F_X8_putSum_14_b42 a4 (-(a3 - w2)) a3 a2 a1 S hf)
def W_X8_putFigures_14 : aWr := ([(14, 0)], [], [15, 16, 17, 18, 19])
theorem F_X8_putFigures_14_b167 {N : Nat} {rec97 : Int32 → Int32 → Int32 → Int32 → Int32 → aSt → Option (aSt)} (hrec97 : ∀ (v1 : Int32) (v2 : Int32) (v3 : Int32) (v4 : Int32) (v5 : Int32) (S : aSt) {r : aSt}, rec97 v1 v2 v3 v4 v5 S = (some r) → aFr W_X8_putFigures_14 S r) (v1 : Int32) (v2 : Int32) (v3 : Int32) (v4 : Int32) (v5 : Int32) (S : aSt) {r : aSt} (hf : X8_putFigures_14_b167 N rec97 v1 v2 v3 v4 v5 S = (some r)) : aFr W_X8_putFigures_14 S r := by
  unfold X8_putFigures_14_b167 at hf
  exact aFr.tr aFr.rf (hrec97 v1 v2 v3 v4 (v5 + (1 : Int32)) S hf)
theorem F_X8_putFigures_14_b118 {N : Nat} {rec97 : Int32 → Int32 → Int32 → Int32 → Int32 → aSt → Option (aSt)} {rec118 : Int32 → Int32 → Int32 → Int32 → Int32 → Int32 → Int32 → aSt → Option (aSt)} (hrec97 : ∀ (v1 : Int32) (v2 : Int32) (v3 : Int32) (v4 : Int32) (v5 : Int32) (S : aSt) {r : aSt}, rec97 v1 v2 v3 v4 v5 S = (some r) → aFr W_X8_putFigures_14 S r) (hrec118 : ∀ (v1 : Int32) (v2 : Int32) (v3 : Int32) (v4 : Int32) (v5 : Int32) (v6 : Int32) (v7 : Int32) (S : aSt) {r : aSt}, rec118 v1 v2 v3 v4 v5 v6 v7 S = (some r) → aFr W_X8_putFigures_14 S r) (v1 : Int32) (v2 : Int32) (v3 : Int32) (v4 : Int32) (v5 : Int32) (v6 : Int32) (v7 : Int32) (S : aSt) {r : aSt} (hf : X8_putFigures_14_b118 N rec97 rec118 v1 v2 v3 v4 v5 v6 v7 S = (some r)) : aFr W_X8_putFigures_14 S r := by
  unfold X8_putFigures_14_b118 at hf
  rcases aIfE hf with ⟨-, hf⟩ | ⟨-, hf⟩
  · exact aFr.tr aFr.rf (F_X8_putFigures_14_b167 hrec97 v1 v2 v3 v4 v5 S hf)
  · obtain ⟨w8, ew9, hf⟩ := aLetE hf
    obtain ⟨w10, ew11, hf⟩ := aLetE hf
    obtain ⟨w12, ew13, hf⟩ := aLetE hf
    have hw12 : aFr W_X8_putFigures_14 S w12 := aFr.tr aFr.rf ((F_X8_putSum_14 (1 : Int32) v1 (v2 + ((v7 - v6) * w8)) (v3 * w10) S ew13).mono (by decide))
    exact aFr.tr hw12 (hrec118 v1 v2 v3 v4 v5 v6 (v7 + (1 : Int32)) w12 hf)
theorem F_X8_putFigures_14_l118 {N : Nat} {rec97 : Int32 → Int32 → Int32 → Int32 → Int32 → aSt → Option (aSt)} (hrec97 : ∀ (v1 : Int32) (v2 : Int32) (v3 : Int32) (v4 : Int32) (v5 : Int32) (S : aSt) {r : aSt}, rec97 v1 v2 v3 v4 v5 S = (some r) → aFr W_X8_putFigures_14 S r) : ∀ (n : Nat) (v1 : Int32) (v2 : Int32) (v3 : Int32) (v4 : Int32) (v5 : Int32) (v6 : Int32) (v7 : Int32) (S : aSt) {r : aSt}, X8_putFigures_14_l118 N rec97 n v1 v2 v3 v4 v5 v6 v7 S = (some r) → aFr W_X8_putFigures_14 S r
  | 0, _, _, _, _, _, _, _, _, _, h => nomatch (show (none : Option (aSt)) = some _ from h)
  | n + 1, v1, v2, v3, v4, v5, v6, v7, S, _, h => F_X8_putFigures_14_b118 hrec97 (fun v1 v2 v3 v4 v5 v6 v7 S _ h => F_X8_putFigures_14_l118 hrec97 n v1 v2 v3 v4 v5 v6 v7 S h) v1 v2 v3 v4 v5 v6 v7 S h
theorem F_X8_putFigures_14_b97 {N : Nat} {rec97 : Int32 → Int32 → Int32 → Int32 → Int32 → aSt → Option (aSt)} (hrec97 : ∀ (v1 : Int32) (v2 : Int32) (v3 : Int32) (v4 : Int32) (v5 : Int32) (S : aSt) {r : aSt}, rec97 v1 v2 v3 v4 v5 S = (some r) → aFr W_X8_putFigures_14 S r) (v1 : Int32) (v2 : Int32) (v3 : Int32) (v4 : Int32) (v5 : Int32) (S : aSt) {r : aSt} (hf : X8_putFigures_14_b97 N rec97 v1 v2 v3 v4 v5 S = (some r)) : aFr W_X8_putFigures_14 S r := by
  unfold X8_putFigures_14_b97 at hf
  rcases aIfE hf with ⟨-, hf⟩ | ⟨-, hf⟩
  · have e9 := Option.some.inj hf; subst e9
    exact aFr.rf
  · obtain ⟨w5, ew6, hf⟩ := aBnE hf
    exact aFr.tr aFr.rf (F_X8_putFigures_14_l118 hrec97 N v1 v2 v3 v4 v5 w5 (w5 + (1 : Int32)) S hf)
theorem F_X8_putFigures_14_l97 {N : Nat} : ∀ (n : Nat) (v1 : Int32) (v2 : Int32) (v3 : Int32) (v4 : Int32) (v5 : Int32) (S : aSt) {r : aSt}, X8_putFigures_14_l97 N n v1 v2 v3 v4 v5 S = (some r) → aFr W_X8_putFigures_14 S r
  | 0, _, _, _, _, _, _, _, h => nomatch (show (none : Option (aSt)) = some _ from h)
  | n + 1, v1, v2, v3, v4, v5, S, _, h => F_X8_putFigures_14_b97 (fun v1 v2 v3 v4 v5 S _ h => F_X8_putFigures_14_l97 n v1 v2 v3 v4 v5 S h) v1 v2 v3 v4 v5 S h
theorem F_X8_putFigures_14_b94 {N : Nat} (v1 : Int32) (v2 : Int32) (v3 : Int32) (v4 : Int32) (S : aSt) {r : aSt} (hf : X8_putFigures_14_b94 N v1 v2 v3 v4 S = (some r)) : aFr W_X8_putFigures_14 S r := by
  unfold X8_putFigures_14_b94 at hf
  exact aFr.tr aFr.rf (F_X8_putFigures_14_l97 N v1 v2 v3 v4 (0 : Int32) S hf)
theorem F_X8_putFigures_14_b88 {N : Nat} {rec12 : Int32 → Int32 → Int32 → Int32 → Int32 → aSt → Option (aSt)} (hrec12 : ∀ (v1 : Int32) (v2 : Int32) (v3 : Int32) (v4 : Int32) (v5 : Int32) (S : aSt) {r : aSt}, rec12 v1 v2 v3 v4 v5 S = (some r) → aFr W_X8_putFigures_14 S r) (v1 : Int32) (v2 : Int32) (v3 : Int32) (v4 : Int32) (v5 : Int32) (S : aSt) {r : aSt} (hf : X8_putFigures_14_b88 N rec12 v1 v2 v3 v4 v5 S = (some r)) : aFr W_X8_putFigures_14 S r := by
  unfold X8_putFigures_14_b88 at hf
  exact aFr.tr aFr.rf (hrec12 v1 v2 v3 v4 (v5 + ((-1) : Int32)) S hf)
theorem F_X8_putFigures_14_b39 {N : Nat} {rec12 : Int32 → Int32 → Int32 → Int32 → Int32 → aSt → Option (aSt)} {rec39 : Int32 → Int32 → Int32 → Int32 → Int32 → Int32 → Int32 → aSt → Option (aSt)} (hrec12 : ∀ (v1 : Int32) (v2 : Int32) (v3 : Int32) (v4 : Int32) (v5 : Int32) (S : aSt) {r : aSt}, rec12 v1 v2 v3 v4 v5 S = (some r) → aFr W_X8_putFigures_14 S r) (hrec39 : ∀ (v1 : Int32) (v2 : Int32) (v3 : Int32) (v4 : Int32) (v5 : Int32) (v6 : Int32) (v7 : Int32) (S : aSt) {r : aSt}, rec39 v1 v2 v3 v4 v5 v6 v7 S = (some r) → aFr W_X8_putFigures_14 S r) (v1 : Int32) (v2 : Int32) (v3 : Int32) (v4 : Int32) (v5 : Int32) (v6 : Int32) (v7 : Int32) (S : aSt) {r : aSt} (hf : X8_putFigures_14_b39 N rec12 rec39 v1 v2 v3 v4 v5 v6 v7 S = (some r)) : aFr W_X8_putFigures_14 S r := by
  unfold X8_putFigures_14_b39 at hf
  rcases aIfE hf with ⟨-, hf⟩ | ⟨-, hf⟩
  · exact aFr.tr aFr.rf (F_X8_putFigures_14_b88 hrec12 v1 v2 v3 v4 v5 S hf)
  · obtain ⟨w18, ew19, hf⟩ := aLetE hf
    obtain ⟨w20, ew21, hf⟩ := aLetE hf
    obtain ⟨w22, ew23, hf⟩ := aLetE hf
    have hw22 : aFr W_X8_putFigures_14 S w22 := aFr.tr aFr.rf ((F_X8_putSum_14 (1 : Int32) v1 (v2 + ((v7 - v6) * w18)) (v3 * w20) S ew23).mono (by decide))
    exact aFr.tr hw22 (hrec39 v1 v2 v3 v4 v5 v6 (v7 + (1 : Int32)) w22 hf)
theorem F_X8_putFigures_14_l39 {N : Nat} {rec12 : Int32 → Int32 → Int32 → Int32 → Int32 → aSt → Option (aSt)} (hrec12 : ∀ (v1 : Int32) (v2 : Int32) (v3 : Int32) (v4 : Int32) (v5 : Int32) (S : aSt) {r : aSt}, rec12 v1 v2 v3 v4 v5 S = (some r) → aFr W_X8_putFigures_14 S r) : ∀ (n : Nat) (v1 : Int32) (v2 : Int32) (v3 : Int32) (v4 : Int32) (v5 : Int32) (v6 : Int32) (v7 : Int32) (S : aSt) {r : aSt}, X8_putFigures_14_l39 N rec12 n v1 v2 v3 v4 v5 v6 v7 S = (some r) → aFr W_X8_putFigures_14 S r
  | 0, _, _, _, _, _, _, _, _, _, h => nomatch (show (none : Option (aSt)) = some _ from h)
  | n + 1, v1, v2, v3, v4, v5, v6, v7, S, _, h => F_X8_putFigures_14_b39 hrec12 (fun v1 v2 v3 v4 v5 v6 v7 S _ h => F_X8_putFigures_14_l39 hrec12 n v1 v2 v3 v4 v5 v6 v7 S h) v1 v2 v3 v4 v5 v6 v7 S h
theorem F_X8_putFigures_14_b37 {N : Nat} {rec12 : Int32 → Int32 → Int32 → Int32 → Int32 → aSt → Option (aSt)} (hrec12 : ∀ (v1 : Int32) (v2 : Int32) (v3 : Int32) (v4 : Int32) (v5 : Int32) (S : aSt) {r : aSt}, rec12 v1 v2 v3 v4 v5 S = (some r) → aFr W_X8_putFigures_14 S r) (v1 : Int32) (v2 : Int32) (v3 : Int32) (v4 : Int32) (v5 : Int32) (v6 : Int32) (s0 : Int32) (S : aSt) {r : aSt} (hf : X8_putFigures_14_b37 N rec12 v1 v2 v3 v4 v5 v6 s0 S = (some r)) : aFr W_X8_putFigures_14 S r := by
  unfold X8_putFigures_14_b37 at hf
  exact aFr.tr aFr.rf (F_X8_putFigures_14_l39 hrec12 N v1 v2 v3 v4 v5 v6 s0 S hf)
theorem F_X8_putFigures_14_b12 {N : Nat} {rec12 : Int32 → Int32 → Int32 → Int32 → Int32 → aSt → Option (aSt)} (hrec12 : ∀ (v1 : Int32) (v2 : Int32) (v3 : Int32) (v4 : Int32) (v5 : Int32) (S : aSt) {r : aSt}, rec12 v1 v2 v3 v4 v5 S = (some r) → aFr W_X8_putFigures_14 S r) (v1 : Int32) (v2 : Int32) (v3 : Int32) (v4 : Int32) (v5 : Int32) (S : aSt) {r : aSt} (hf : X8_putFigures_14_b12 N rec12 v1 v2 v3 v4 v5 S = (some r)) : aFr W_X8_putFigures_14 S r := by
  unfold X8_putFigures_14_b12 at hf
  rcases aIfE hf with ⟨-, hf⟩ | ⟨-, hf⟩
  · exact aFr.tr aFr.rf (F_X8_putFigures_14_b94 v1 v2 v3 v4 S hf)
  · obtain ⟨w14, ew15, hf⟩ := aBnE hf
    rcases aIfE hf with ⟨-, hf⟩ | ⟨-, hf⟩
    · exact aFr.tr aFr.rf (F_X8_putFigures_14_b37 hrec12 v1 v2 v3 v4 v5 w14 (1 : Int32) S hf)
    · exact aFr.tr aFr.rf (F_X8_putFigures_14_b37 hrec12 v1 v2 v3 v4 v5 w14 (0 : Int32) S hf)
theorem F_X8_putFigures_14_l12 {N : Nat} : ∀ (n : Nat) (v1 : Int32) (v2 : Int32) (v3 : Int32) (v4 : Int32) (v5 : Int32) (S : aSt) {r : aSt}, X8_putFigures_14_l12 N n v1 v2 v3 v4 v5 S = (some r) → aFr W_X8_putFigures_14 S r
  | 0, _, _, _, _, _, _, _, h => nomatch (show (none : Option (aSt)) = some _ from h)
  | n + 1, v1, v2, v3, v4, v5, S, _, h => F_X8_putFigures_14_b12 (fun v1 v2 v3 v4 v5 S _ h => F_X8_putFigures_14_l12 n v1 v2 v3 v4 v5 S h) v1 v2 v3 v4 v5 S h
theorem F_X8_putFigures_14 (N : Nat) (a1 : Int32) (a2 : Int32) (a3 : Int32) (S : aSt) {r : aSt} (hf : X8_putFigures_14 N a1 a2 a3 S = (some r)) : aFr W_X8_putFigures_14 S r := by
  unfold X8_putFigures_14 at hf
  obtain ⟨w1, ew2, hf⟩ := aBnE hf
  exact aFr.tr aFr.rf (F_X8_putFigures_14_l12 N a1 a2 a3 (w1 - (1 : Int32)) (w1 - (1 : Int32)) S hf)
def W_X8_putTurns_14 : aWr := ([(14, 0)], [], [15, 16, 17, 18, 19])
theorem F_X8_putTurns_14_b79 {N : Nat} {rec49 : Int32 → Int32 → Int32 → Int32 → Int32 → aSt → Option (aSt)} (hrec49 : ∀ (v1 : Int32) (v2 : Int32) (v3 : Int32) (v4 : Int32) (v5 : Int32) (S : aSt) {r : aSt}, rec49 v1 v2 v3 v4 v5 S = (some r) → aFr W_X8_putTurns_14 S r) (v1 : Int32) (v2 : Int32) (v3 : Int32) (v4 : Int32) (v5 : Int32) (S : aSt) {r : aSt} (hf : X8_putTurns_14_b79 N rec49 v1 v2 v3 v4 v5 S = (some r)) : aFr W_X8_putTurns_14 S r := by
  unfold X8_putTurns_14_b79 at hf
  exact aFr.tr aFr.rf (hrec49 v1 v2 v3 v4 (v5 + (1 : Int32)) S hf)
theorem F_X8_putTurns_14_b49 {N : Nat} {rec49 : Int32 → Int32 → Int32 → Int32 → Int32 → aSt → Option (aSt)} (hrec49 : ∀ (v1 : Int32) (v2 : Int32) (v3 : Int32) (v4 : Int32) (v5 : Int32) (S : aSt) {r : aSt}, rec49 v1 v2 v3 v4 v5 S = (some r) → aFr W_X8_putTurns_14 S r) (v1 : Int32) (v2 : Int32) (v3 : Int32) (v4 : Int32) (v5 : Int32) (S : aSt) {r : aSt} (hf : X8_putTurns_14_b49 N rec49 v1 v2 v3 v4 v5 S = (some r)) : aFr W_X8_putTurns_14 S r := by
  unfold X8_putTurns_14_b49 at hf
  rcases aIfE hf with ⟨-, hf⟩ | ⟨-, hf⟩
  · have e9 := Option.some.inj hf; subst e9
    exact aFr.rf
  · obtain ⟨w5, ew6, hf⟩ := aBnE hf
    rcases aIfE hf with ⟨-, hf⟩ | ⟨-, hf⟩
    · exact aFr.tr aFr.rf (F_X8_putTurns_14_b79 hrec49 v1 v2 v3 v4 v5 S hf)
    · obtain ⟨w8, ew9, hf⟩ := aLetE hf
      have hw8 : aFr W_X8_putTurns_14 S w8 := aFr.tr aFr.rf ((F_X8_putSum_14 (0 : Int32) v1 w5 v3 S ew9).mono (by decide))
      exact aFr.tr hw8 (F_X8_putTurns_14_b79 hrec49 v1 v2 v3 v4 v5 w8 hf)
theorem F_X8_putTurns_14_l49 {N : Nat} : ∀ (n : Nat) (v1 : Int32) (v2 : Int32) (v3 : Int32) (v4 : Int32) (v5 : Int32) (S : aSt) {r : aSt}, X8_putTurns_14_l49 N n v1 v2 v3 v4 v5 S = (some r) → aFr W_X8_putTurns_14 S r
  | 0, _, _, _, _, _, _, _, h => nomatch (show (none : Option (aSt)) = some _ from h)
  | n + 1, v1, v2, v3, v4, v5, S, _, h => F_X8_putTurns_14_b49 (fun v1 v2 v3 v4 v5 S _ h => F_X8_putTurns_14_l49 n v1 v2 v3 v4 v5 S h) v1 v2 v3 v4 v5 S h
theorem F_X8_putTurns_14_b46 {N : Nat} (v1 : Int32) (v2 : Int32) (v3 : Int32) (v4 : Int32) (S : aSt) {r : aSt} (hf : X8_putTurns_14_b46 N v1 v2 v3 v4 S = (some r)) : aFr W_X8_putTurns_14 S r := by
  unfold X8_putTurns_14_b46 at hf
  exact aFr.tr aFr.rf (F_X8_putTurns_14_l49 N v1 v2 v3 v4 (0 : Int32) S hf)
theorem F_X8_putTurns_14_b40 {N : Nat} {rec12 : Int32 → Int32 → Int32 → Int32 → Int32 → aSt → Option (aSt)} (hrec12 : ∀ (v1 : Int32) (v2 : Int32) (v3 : Int32) (v4 : Int32) (v5 : Int32) (S : aSt) {r : aSt}, rec12 v1 v2 v3 v4 v5 S = (some r) → aFr W_X8_putTurns_14 S r) (v1 : Int32) (v2 : Int32) (v3 : Int32) (v4 : Int32) (v5 : Int32) (S : aSt) {r : aSt} (hf : X8_putTurns_14_b40 N rec12 v1 v2 v3 v4 v5 S = (some r)) : aFr W_X8_putTurns_14 S r := by
  unfold X8_putTurns_14_b40 at hf
  exact aFr.tr aFr.rf (hrec12 v1 v2 v3 v4 (v5 + ((-1) : Int32)) S hf)
theorem F_X8_putTurns_14_b12 {N : Nat} {rec12 : Int32 → Int32 → Int32 → Int32 → Int32 → aSt → Option (aSt)} (hrec12 : ∀ (v1 : Int32) (v2 : Int32) (v3 : Int32) (v4 : Int32) (v5 : Int32) (S : aSt) {r : aSt}, rec12 v1 v2 v3 v4 v5 S = (some r) → aFr W_X8_putTurns_14 S r) (v1 : Int32) (v2 : Int32) (v3 : Int32) (v4 : Int32) (v5 : Int32) (S : aSt) {r : aSt} (hf : X8_putTurns_14_b12 N rec12 v1 v2 v3 v4 v5 S = (some r)) : aFr W_X8_putTurns_14 S r := by
  unfold X8_putTurns_14_b12 at hf
  rcases aIfE hf with ⟨-, hf⟩ | ⟨-, hf⟩
  · exact aFr.tr aFr.rf (F_X8_putTurns_14_b46 v1 v2 v3 v4 S hf)
  · obtain ⟨w10, ew11, hf⟩ := aBnE hf
    rcases aIfE hf with ⟨-, hf⟩ | ⟨-, hf⟩
    · exact aFr.tr aFr.rf (F_X8_putTurns_14_b40 hrec12 v1 v2 v3 v4 v5 S hf)
    · obtain ⟨w13, ew14, hf⟩ := aLetE hf
      have hw13 : aFr W_X8_putTurns_14 S w13 := aFr.tr aFr.rf ((F_X8_putSum_14 (0 : Int32) v1 w10 v3 S ew14).mono (by decide))
      exact aFr.tr hw13 (F_X8_putTurns_14_b40 hrec12 v1 v2 v3 v4 v5 w13 hf)
theorem F_X8_putTurns_14_l12 {N : Nat} : ∀ (n : Nat) (v1 : Int32) (v2 : Int32) (v3 : Int32) (v4 : Int32) (v5 : Int32) (S : aSt) {r : aSt}, X8_putTurns_14_l12 N n v1 v2 v3 v4 v5 S = (some r) → aFr W_X8_putTurns_14 S r
  | 0, _, _, _, _, _, _, _, h => nomatch (show (none : Option (aSt)) = some _ from h)
  | n + 1, v1, v2, v3, v4, v5, S, _, h => F_X8_putTurns_14_b12 (fun v1 v2 v3 v4 v5 S _ h => F_X8_putTurns_14_l12 n v1 v2 v3 v4 v5 S h) v1 v2 v3 v4 v5 S h
theorem F_X8_putTurns_14 (N : Nat) (a1 : Int32) (a2 : Int32) (a3 : Int32) (S : aSt) {r : aSt} (hf : X8_putTurns_14 N a1 a2 a3 S = (some r)) : aFr W_X8_putTurns_14 S r := by
  unfold X8_putTurns_14 at hf
  obtain ⟨w1, ew2, hf⟩ := aBnE hf
  exact aFr.tr aFr.rf (F_X8_putTurns_14_l12 N a1 a2 a3 (w1 - (2 : Int32)) (w1 - (2 : Int32)) S hf)
def W_X8_build_14 : aWr := ([(14, 0)], [], [15, 16, 17, 18, 19, 20, 21])
theorem F_X8_build_14_b280 {N : Nat} (S : aSt) {r : aSt} (hf : X8_build_14_b280 N S = (some r)) : aFr W_X8_build_14 S r := by
  unfold X8_build_14_b280 at hf
  obtain ⟨w11, ew12, hf⟩ := aBnE hf
  have hw11 : aFr W_X8_build_14 S w11 := aFr.tr aFr.rf ((F_X8_chain_14 N  S ew12).mono (by decide))
  have e9 := Option.some.inj hf; subst e9
  exact hw11
theorem F_X8_build_14_b263 {N : Nat} {rec263 : Int32 → aSt → Option (aSt)} (hrec263 : ∀ (v1 : Int32) (S : aSt) {r : aSt}, rec263 v1 S = (some r) → aFr W_X8_build_14 S r) (v1 : Int32) (S : aSt) {r : aSt} (hf : X8_build_14_b263 N rec263 v1 S = (some r)) : aFr W_X8_build_14 S r := by
  unfold X8_build_14_b263 at hf
  rcases aIfE hf with ⟨-, hf⟩ | ⟨-, hf⟩
  · exact aFr.tr aFr.rf (F_X8_build_14_b280 S hf)
  · obtain ⟨w13, ew14, hf⟩ := aBnE hf
    have hw13 : aFr W_X8_build_14 S w13 := aFr.tr aFr.rf ((F_X8_putCarries_14 N v1 S ew14).mono (by decide))
    exact aFr.tr hw13 (hrec263 (v1 + (1 : Int32)) w13 hf)
theorem F_X8_build_14_l263 {N : Nat} : ∀ (n : Nat) (v1 : Int32) (S : aSt) {r : aSt}, X8_build_14_l263 N n v1 S = (some r) → aFr W_X8_build_14 S r
  | 0, _, _, _, h => nomatch (show (none : Option (aSt)) = some _ from h)
  | n + 1, v1, S, _, h => F_X8_build_14_b263 (fun v1 S _ h => F_X8_build_14_l263 n v1 S h) v1 S h
theorem F_X8_build_14_b249 {N : Nat} (S : aSt) {r : aSt} (hf : X8_build_14_b249 N S = (some r)) : aFr W_X8_build_14 S r := by
  unfold X8_build_14_b249 at hf
  obtain ⟨w6, ew7, hf⟩ := aBnE hf
  obtain ⟨w8, ew9, hf⟩ := aLetE hf
  have hw8 : aFr W_X8_build_14 S w8 := aFr.tr aFr.rf ((F_X8_putMissed_14 w6 S ew9).mono (by decide))
  exact aFr.tr hw8 (F_X8_build_14_l263 N (0 : Int32) w8 hf)
theorem F_X8_build_14_b243 {N : Nat} {rec199 : Int32 → aSt → Option (aSt)} (hrec199 : ∀ (v1 : Int32) (S : aSt) {r : aSt}, rec199 v1 S = (some r) → aFr W_X8_build_14 S r) (v1 : Int32) (S : aSt) {r : aSt} (hf : X8_build_14_b243 N rec199 v1 S = (some r)) : aFr W_X8_build_14 S r := by
  unfold X8_build_14_b243 at hf
  exact aFr.tr aFr.rf (hrec199 (v1 + (1 : Int32)) S hf)
theorem F_X8_build_14_b199 {N : Nat} {rec199 : Int32 → aSt → Option (aSt)} (hrec199 : ∀ (v1 : Int32) (S : aSt) {r : aSt}, rec199 v1 S = (some r) → aFr W_X8_build_14 S r) (v1 : Int32) (S : aSt) {r : aSt} (hf : X8_build_14_b199 N rec199 v1 S = (some r)) : aFr W_X8_build_14 S r := by
  unfold X8_build_14_b199 at hf
  rcases aIfE hf with ⟨-, hf⟩ | ⟨-, hf⟩
  · exact aFr.tr aFr.rf (F_X8_build_14_b249 S hf)
  · obtain ⟨w15, ew16, hf⟩ := aBnE hf
    rcases aIfE hf with ⟨-, hf⟩ | ⟨-, hf⟩
    · exact aFr.tr aFr.rf (F_X8_build_14_b243 hrec199 v1 S hf)
    · obtain ⟨w18, ew19, hf⟩ := aLetE hf
      obtain ⟨w20, ew21, hf⟩ := aLetE hf
      obtain ⟨w22, ew23, hf⟩ := aLetE hf
      have hw22 : aFr W_X8_build_14 S w22 := aFr.tr aFr.rf ((F_X8_put_14 (4 : Int32) v1 (0 : Int32) (-w18) w20 S ew23).mono (by decide))
      exact aFr.tr hw22 (F_X8_build_14_b243 hrec199 v1 w22 hf)
theorem F_X8_build_14_l199 {N : Nat} : ∀ (n : Nat) (v1 : Int32) (S : aSt) {r : aSt}, X8_build_14_l199 N n v1 S = (some r) → aFr W_X8_build_14 S r
  | 0, _, _, _, h => nomatch (show (none : Option (aSt)) = some _ from h)
  | n + 1, v1, S, _, h => F_X8_build_14_b199 (fun v1 S _ h => F_X8_build_14_l199 n v1 S h) v1 S h
theorem F_X8_build_14_b197 {N : Nat} (S : aSt) {r : aSt} (hf : X8_build_14_b197 N S = (some r)) : aFr W_X8_build_14 S r := by
  unfold X8_build_14_b197 at hf
  exact aFr.tr aFr.rf (F_X8_build_14_l199 N (0 : Int32) S hf)
theorem F_X8_build_14_b146 {N : Nat} {rec146 : Int32 → aSt → Option (aSt)} (hrec146 : ∀ (v1 : Int32) (S : aSt) {r : aSt}, rec146 v1 S = (some r) → aFr W_X8_build_14 S r) (v1 : Int32) (S : aSt) {r : aSt} (hf : X8_build_14_b146 N rec146 v1 S = (some r)) : aFr W_X8_build_14 S r := by
  unfold X8_build_14_b146 at hf
  rcases aIfE hf with ⟨-, hf⟩ | ⟨-, hf⟩
  · exact aFr.tr aFr.rf (F_X8_build_14_b197 S hf)
  · obtain ⟨w24, ew25, hf⟩ := aLetE hf
    obtain ⟨w26, ew27, hf⟩ := aLetE hf
    obtain ⟨w28, ew29, hf⟩ := aLetE hf
    obtain ⟨w30, ew31, hf⟩ := aLetE hf
    have hw30 : aFr W_X8_build_14 S w30 := aFr.tr aFr.rf ((F_X8_put_14 (3 : Int32) v1 w24 (((-2) : Int32) * w26) w28 S ew31).mono (by decide))
    exact aFr.tr hw30 (hrec146 (v1 + (1 : Int32)) w30 hf)
theorem F_X8_build_14_l146 {N : Nat} : ∀ (n : Nat) (v1 : Int32) (S : aSt) {r : aSt}, X8_build_14_l146 N n v1 S = (some r) → aFr W_X8_build_14 S r
  | 0, _, _, _, h => nomatch (show (none : Option (aSt)) = some _ from h)
  | n + 1, v1, S, _, h => F_X8_build_14_b146 (fun v1 S _ h => F_X8_build_14_l146 n v1 S h) v1 S h
theorem F_X8_build_14_b144 {N : Nat} (S : aSt) {r : aSt} (hf : X8_build_14_b144 N S = (some r)) : aFr W_X8_build_14 S r := by
  unfold X8_build_14_b144 at hf
  exact aFr.tr aFr.rf (F_X8_build_14_l146 N (0 : Int32) S hf)
theorem F_X8_build_14_b85 {N : Nat} {rec85 : Int32 → aSt → Option (aSt)} (hrec85 : ∀ (v1 : Int32) (S : aSt) {r : aSt}, rec85 v1 S = (some r) → aFr W_X8_build_14 S r) (v1 : Int32) (S : aSt) {r : aSt} (hf : X8_build_14_b85 N rec85 v1 S = (some r)) : aFr W_X8_build_14 S r := by
  unfold X8_build_14_b85 at hf
  rcases aIfE hf with ⟨-, hf⟩ | ⟨-, hf⟩
  · exact aFr.tr aFr.rf (F_X8_build_14_b144 S hf)
  · obtain ⟨w32, ew33, hf⟩ := aLetE hf
    obtain ⟨w34, ew35, hf⟩ := aLetE hf
    obtain ⟨w36, ew37, hf⟩ := aLetE hf
    obtain ⟨w38, ew39, hf⟩ := aLetE hf
    have hw38 : aFr W_X8_build_14 S w38 := aFr.tr aFr.rf ((F_X8_putSum_14 (2 : Int32) v1 w34 w36 S ew39).mono (by decide))
    obtain ⟨w40, ew41, hf⟩ := aLetE hf
    obtain ⟨w42, ew43, hf⟩ := aLetE hf
    obtain ⟨w44, ew45, hf⟩ := aLetE hf
    have hw44 : aFr W_X8_build_14 S w44 := aFr.tr hw38 ((F_X8_putSum_14 (2 : Int32) v1 w40 w42 w38 ew45).mono (by decide))
    exact aFr.tr hw44 (hrec85 (v1 + (1 : Int32)) w44 hf)
theorem F_X8_build_14_l85 {N : Nat} : ∀ (n : Nat) (v1 : Int32) (S : aSt) {r : aSt}, X8_build_14_l85 N n v1 S = (some r) → aFr W_X8_build_14 S r
  | 0, _, _, _, h => nomatch (show (none : Option (aSt)) = some _ from h)
  | n + 1, v1, S, _, h => F_X8_build_14_b85 (fun v1 S _ h => F_X8_build_14_l85 n v1 S h) v1 S h
theorem F_X8_build_14_b83 {N : Nat} (S : aSt) {r : aSt} (hf : X8_build_14_b83 N S = (some r)) : aFr W_X8_build_14 S r := by
  unfold X8_build_14_b83 at hf
  exact aFr.tr aFr.rf (F_X8_build_14_l85 N (0 : Int32) S hf)
theorem F_X8_build_14_b46 {N : Nat} {rec46 : Int32 → aSt → Option (aSt)} (hrec46 : ∀ (v1 : Int32) (S : aSt) {r : aSt}, rec46 v1 S = (some r) → aFr W_X8_build_14 S r) (v1 : Int32) (S : aSt) {r : aSt} (hf : X8_build_14_b46 N rec46 v1 S = (some r)) : aFr W_X8_build_14 S r := by
  unfold X8_build_14_b46 at hf
  rcases aIfE hf with ⟨-, hf⟩ | ⟨-, hf⟩
  · exact aFr.tr aFr.rf (F_X8_build_14_b83 S hf)
  · obtain ⟨w46, ew47, hf⟩ := aLetE hf
    obtain ⟨w48, ew49, hf⟩ := aLetE hf
    obtain ⟨w50, ew51, hf⟩ := aBnE hf
    have hw50 : aFr W_X8_build_14 S w50 := aFr.tr aFr.rf ((F_X8_putFigures_14 N v1 w46 w48 S ew51).mono (by decide))
    exact aFr.tr hw50 (hrec46 (v1 + (1 : Int32)) w50 hf)
theorem F_X8_build_14_l46 {N : Nat} : ∀ (n : Nat) (v1 : Int32) (S : aSt) {r : aSt}, X8_build_14_l46 N n v1 S = (some r) → aFr W_X8_build_14 S r
  | 0, _, _, _, h => nomatch (show (none : Option (aSt)) = some _ from h)
  | n + 1, v1, S, _, h => F_X8_build_14_b46 (fun v1 S _ h => F_X8_build_14_l46 n v1 S h) v1 S h
theorem F_X8_build_14_b44 {N : Nat} (S : aSt) {r : aSt} (hf : X8_build_14_b44 N S = (some r)) : aFr W_X8_build_14 S r := by
  unfold X8_build_14_b44 at hf
  exact aFr.tr aFr.rf (F_X8_build_14_l46 N (0 : Int32) S hf)
theorem F_X8_build_14_b7 {N : Nat} {rec7 : Int32 → aSt → Option (aSt)} (hrec7 : ∀ (v1 : Int32) (S : aSt) {r : aSt}, rec7 v1 S = (some r) → aFr W_X8_build_14 S r) (v1 : Int32) (S : aSt) {r : aSt} (hf : X8_build_14_b7 N rec7 v1 S = (some r)) : aFr W_X8_build_14 S r := by
  unfold X8_build_14_b7 at hf
  rcases aIfE hf with ⟨-, hf⟩ | ⟨-, hf⟩
  · exact aFr.tr aFr.rf (F_X8_build_14_b44 S hf)
  · obtain ⟨w52, ew53, hf⟩ := aLetE hf
    obtain ⟨w54, ew55, hf⟩ := aLetE hf
    obtain ⟨w56, ew57, hf⟩ := aBnE hf
    have hw56 : aFr W_X8_build_14 S w56 := aFr.tr aFr.rf ((F_X8_putTurns_14 N v1 w52 w54 S ew57).mono (by decide))
    exact aFr.tr hw56 (hrec7 (v1 + (1 : Int32)) w56 hf)
theorem F_X8_build_14_l7 {N : Nat} : ∀ (n : Nat) (v1 : Int32) (S : aSt) {r : aSt}, X8_build_14_l7 N n v1 S = (some r) → aFr W_X8_build_14 S r
  | 0, _, _, _, h => nomatch (show (none : Option (aSt)) = some _ from h)
  | n + 1, v1, S, _, h => F_X8_build_14_b7 (fun v1 S _ h => F_X8_build_14_l7 n v1 S h) v1 S h
theorem F_X8_build_14 (N : Nat) (S : aSt) {r : aSt} (hf : X8_build_14 N S = (some r)) : aFr W_X8_build_14 S r := by
  unfold X8_build_14 at hf
  exact aFr.tr (aFr.I aFr.rf 14 0 _ (by decide)) (F_X8_build_14_l7 N (0 : Int32) (aI S 14 0 (0 : Int32)) hf)
def W_X6_set_23 : aWr := ([], [], [23])
theorem F_X6_set_23 (a1 : Int32) (a2 : Int32) (S : aSt) {r : aSt} (hf : X6_set_23 a1 a2 S = r) : aFr W_X6_set_23 S r := by
  unfold X6_set_23 at hf
  rcases aIfE hf with ⟨-, hf⟩ | ⟨-, hf⟩
  · subst hf
    exact aFr.rf
  · rcases aIfE hf with ⟨-, hf⟩ | ⟨-, hf⟩
    · subst hf
      exact aFr.rf
    · subst hf
      exact (aFr.A aFr.rf 23 _ (by decide))
def W_X6_set_24 : aWr := ([], [], [24])
theorem F_X6_set_24 (a1 : Int32) (a2 : Int32) (S : aSt) {r : aSt} (hf : X6_set_24 a1 a2 S = r) : aFr W_X6_set_24 S r := by
  unfold X6_set_24 at hf
  rcases aIfE hf with ⟨-, hf⟩ | ⟨-, hf⟩
  · subst hf
    exact aFr.rf
  · rcases aIfE hf with ⟨-, hf⟩ | ⟨-, hf⟩
    · subst hf
      exact aFr.rf
    · subst hf
      exact (aFr.A aFr.rf 24 _ (by decide))
def W_X7_build_22 : aWr := ([(22, 0)], [(22, 1)], [23, 24])
theorem F_X7_build_22_b130 {N : Nat} {rec52 : Int32 → Int32 → aSt → Option (aSt)} (hrec52 : ∀ (v1 : Int32) (v2 : Int32) (S : aSt) {r : aSt}, rec52 v1 v2 S = (some r) → aFr W_X7_build_22 S r) (v1 : Int32) (v2 : Int32) (S : aSt) {r : aSt} (hf : X7_build_22_b130 N rec52 v1 v2 S = (some r)) : aFr W_X7_build_22 S r := by
  unfold X7_build_22_b130 at hf
  exact aFr.tr aFr.rf (hrec52 v1 (v2 + (1 : Int32)) S hf)
theorem F_X7_build_22_b90 {N : Nat} {rec52 : Int32 → Int32 → aSt → Option (aSt)} (hrec52 : ∀ (v1 : Int32) (v2 : Int32) (S : aSt) {r : aSt}, rec52 v1 v2 S = (some r) → aFr W_X7_build_22 S r) (v1 : Int32) (v2 : Int32) (S : aSt) {r : aSt} (hf : X7_build_22_b90 N rec52 v1 v2 S = (some r)) : aFr W_X7_build_22 S r := by
  unfold X7_build_22_b90 at hf
  obtain ⟨w9, ew10, hf⟩ := aLetE hf
  have hw9 : aFr W_X7_build_22 S w9 := aFr.tr aFr.rf ((F_X6_set_23 (S.1 22 0) v2 S ew10).mono (by decide))
  obtain ⟨w11, ew12, hf⟩ := aLetE hf
  exact aFr.tr (aFr.I (aFr.L hw9 22 1 _ (by decide)) 22 0 _ (by decide)) (F_X7_build_22_b130 hrec52 v1 v2 (aI (aL w9 22 1 ((w9.2.1 22 1) + (w11.toInt64))) 22 0 ((w9.1 22 0) + (1 : Int32))) hf)
theorem F_X7_build_22_b52 {N : Nat} {rec52 : Int32 → Int32 → aSt → Option (aSt)} (hrec52 : ∀ (v1 : Int32) (v2 : Int32) (S : aSt) {r : aSt}, rec52 v1 v2 S = (some r) → aFr W_X7_build_22 S r) (v1 : Int32) (v2 : Int32) (S : aSt) {r : aSt} (hf : X7_build_22_b52 N rec52 v1 v2 S = (some r)) : aFr W_X7_build_22 S r := by
  unfold X7_build_22_b52 at hf
  rcases aIfE hf with ⟨-, hf⟩ | ⟨-, hf⟩
  · have e9 := Option.some.inj hf; subst e9
    exact aFr.rf
  · obtain ⟨w5, ew6, hf⟩ := aLetE hf
    rcases aIfE hf with ⟨-, hf⟩ | ⟨-, hf⟩
    · rcases aIfE hf with ⟨-, hf⟩ | ⟨-, hf⟩
      · exact aFr.tr aFr.rf (F_X7_build_22_b90 hrec52 v1 v2 S hf)
      · obtain ⟨w13, ew14, hf⟩ := aBnE hf
        rcases aIfE hf with ⟨-, hf⟩ | ⟨-, hf⟩
        · exact aFr.tr aFr.rf (F_X7_build_22_b130 hrec52 v1 v2 S hf)
        · exact aFr.tr aFr.rf (F_X7_build_22_b90 hrec52 v1 v2 S hf)
    · exact aFr.tr aFr.rf (F_X7_build_22_b130 hrec52 v1 v2 S hf)
theorem F_X7_build_22_l52 {N : Nat} : ∀ (n : Nat) (v1 : Int32) (v2 : Int32) (S : aSt) {r : aSt}, X7_build_22_l52 N n v1 v2 S = (some r) → aFr W_X7_build_22 S r
  | 0, _, _, _, _, h => nomatch (show (none : Option (aSt)) = some _ from h)
  | n + 1, v1, v2, S, _, h => F_X7_build_22_b52 (fun v1 v2 S _ h => F_X7_build_22_l52 n v1 v2 S h) v1 v2 S h
theorem F_X7_build_22_b40 {N : Nat} (S : aSt) {r : aSt} (hf : X7_build_22_b40 N S = (some r)) : aFr W_X7_build_22 S r := by
  unfold X7_build_22_b40 at hf
  obtain ⟨w2, ew3, hf⟩ := aBnE hf
  exact aFr.tr aFr.rf (F_X7_build_22_l52 N (-w2) (0 : Int32) S hf)
theorem F_X7_build_22_b12 {N : Nat} {rec12 : Int32 → aSt → Option (aSt)} (hrec12 : ∀ (v1 : Int32) (S : aSt) {r : aSt}, rec12 v1 S = (some r) → aFr W_X7_build_22 S r) (v1 : Int32) (S : aSt) {r : aSt} (hf : X7_build_22_b12 N rec12 v1 S = (some r)) : aFr W_X7_build_22 S r := by
  unfold X7_build_22_b12 at hf
  rcases aIfE hf with ⟨-, hf⟩ | ⟨-, hf⟩
  · exact aFr.tr aFr.rf (F_X7_build_22_b40 S hf)
  · obtain ⟨w16, ew17, hf⟩ := aBnE hf
    obtain ⟨w18, ew19, hf⟩ := aLetE hf
    have hw18 : aFr W_X7_build_22 S w18 := aFr.tr aFr.rf ((F_X6_set_24 v1 w16 S ew19).mono (by decide))
    exact aFr.tr hw18 (hrec12 (v1 + (1 : Int32)) w18 hf)
theorem F_X7_build_22_l12 {N : Nat} : ∀ (n : Nat) (v1 : Int32) (S : aSt) {r : aSt}, X7_build_22_l12 N n v1 S = (some r) → aFr W_X7_build_22 S r
  | 0, _, _, _, h => nomatch (show (none : Option (aSt)) = some _ from h)
  | n + 1, v1, S, _, h => F_X7_build_22_b12 (fun v1 S _ h => F_X7_build_22_l12 n v1 S h) v1 S h
theorem F_X7_build_22 (N : Nat) (S : aSt) {r : aSt} (hf : X7_build_22 N S = (some r)) : aFr W_X7_build_22 S r := by
  unfold X7_build_22 at hf
  exact aFr.tr (aFr.L (aFr.I aFr.rf 22 0 _ (by decide)) 22 1 _ (by decide)) (F_X7_build_22_l12 N (0 : Int32) (aL (aI S 22 0 (0 : Int32)) 22 1 (0 : Int64)) hf)
def W_X6_set_26 : aWr := ([], [], [26])
theorem F_X6_set_26 (a1 : Int32) (a2 : Int32) (S : aSt) {r : aSt} (hf : X6_set_26 a1 a2 S = r) : aFr W_X6_set_26 S r := by
  unfold X6_set_26 at hf
  rcases aIfE hf with ⟨-, hf⟩ | ⟨-, hf⟩
  · subst hf
    exact aFr.rf
  · rcases aIfE hf with ⟨-, hf⟩ | ⟨-, hf⟩
    · subst hf
      exact aFr.rf
    · subst hf
      exact (aFr.A aFr.rf 26 _ (by decide))
def W_X6_set_27 : aWr := ([], [], [27])
theorem F_X6_set_27 (a1 : Int32) (a2 : Int32) (S : aSt) {r : aSt} (hf : X6_set_27 a1 a2 S = r) : aFr W_X6_set_27 S r := by
  unfold X6_set_27 at hf
  rcases aIfE hf with ⟨-, hf⟩ | ⟨-, hf⟩
  · subst hf
    exact aFr.rf
  · rcases aIfE hf with ⟨-, hf⟩ | ⟨-, hf⟩
    · subst hf
      exact aFr.rf
    · subst hf
      exact (aFr.A aFr.rf 27 _ (by decide))
def W_X7_build_25 : aWr := ([(25, 0)], [(25, 1)], [26, 27])
theorem F_X7_build_25_b130 {N : Nat} {rec52 : Int32 → Int32 → aSt → Option (aSt)} (hrec52 : ∀ (v1 : Int32) (v2 : Int32) (S : aSt) {r : aSt}, rec52 v1 v2 S = (some r) → aFr W_X7_build_25 S r) (v1 : Int32) (v2 : Int32) (S : aSt) {r : aSt} (hf : X7_build_25_b130 N rec52 v1 v2 S = (some r)) : aFr W_X7_build_25 S r := by
  unfold X7_build_25_b130 at hf
  exact aFr.tr aFr.rf (hrec52 v1 (v2 + (1 : Int32)) S hf)
theorem F_X7_build_25_b90 {N : Nat} {rec52 : Int32 → Int32 → aSt → Option (aSt)} (hrec52 : ∀ (v1 : Int32) (v2 : Int32) (S : aSt) {r : aSt}, rec52 v1 v2 S = (some r) → aFr W_X7_build_25 S r) (v1 : Int32) (v2 : Int32) (S : aSt) {r : aSt} (hf : X7_build_25_b90 N rec52 v1 v2 S = (some r)) : aFr W_X7_build_25 S r := by
  unfold X7_build_25_b90 at hf
  obtain ⟨w9, ew10, hf⟩ := aLetE hf
  have hw9 : aFr W_X7_build_25 S w9 := aFr.tr aFr.rf ((F_X6_set_26 (S.1 25 0) v2 S ew10).mono (by decide))
  obtain ⟨w11, ew12, hf⟩ := aLetE hf
  exact aFr.tr (aFr.I (aFr.L hw9 25 1 _ (by decide)) 25 0 _ (by decide)) (F_X7_build_25_b130 hrec52 v1 v2 (aI (aL w9 25 1 ((w9.2.1 25 1) + (w11.toInt64))) 25 0 ((w9.1 25 0) + (1 : Int32))) hf)
theorem F_X7_build_25_b52 {N : Nat} {rec52 : Int32 → Int32 → aSt → Option (aSt)} (hrec52 : ∀ (v1 : Int32) (v2 : Int32) (S : aSt) {r : aSt}, rec52 v1 v2 S = (some r) → aFr W_X7_build_25 S r) (v1 : Int32) (v2 : Int32) (S : aSt) {r : aSt} (hf : X7_build_25_b52 N rec52 v1 v2 S = (some r)) : aFr W_X7_build_25 S r := by
  unfold X7_build_25_b52 at hf
  rcases aIfE hf with ⟨-, hf⟩ | ⟨-, hf⟩
  · have e9 := Option.some.inj hf; subst e9
    exact aFr.rf
  · obtain ⟨w5, ew6, hf⟩ := aLetE hf
    rcases aIfE hf with ⟨-, hf⟩ | ⟨-, hf⟩
    · rcases aIfE hf with ⟨-, hf⟩ | ⟨-, hf⟩
      · exact aFr.tr aFr.rf (F_X7_build_25_b90 hrec52 v1 v2 S hf)
      · obtain ⟨w13, ew14, hf⟩ := aBnE hf
        rcases aIfE hf with ⟨-, hf⟩ | ⟨-, hf⟩
        · exact aFr.tr aFr.rf (F_X7_build_25_b130 hrec52 v1 v2 S hf)
        · exact aFr.tr aFr.rf (F_X7_build_25_b90 hrec52 v1 v2 S hf)
    · exact aFr.tr aFr.rf (F_X7_build_25_b130 hrec52 v1 v2 S hf)
theorem F_X7_build_25_l52 {N : Nat} : ∀ (n : Nat) (v1 : Int32) (v2 : Int32) (S : aSt) {r : aSt}, X7_build_25_l52 N n v1 v2 S = (some r) → aFr W_X7_build_25 S r
  | 0, _, _, _, _, h => nomatch (show (none : Option (aSt)) = some _ from h)
  | n + 1, v1, v2, S, _, h => F_X7_build_25_b52 (fun v1 v2 S _ h => F_X7_build_25_l52 n v1 v2 S h) v1 v2 S h
theorem F_X7_build_25_b40 {N : Nat} (S : aSt) {r : aSt} (hf : X7_build_25_b40 N S = (some r)) : aFr W_X7_build_25 S r := by
  unfold X7_build_25_b40 at hf
  obtain ⟨w2, ew3, hf⟩ := aBnE hf
  exact aFr.tr aFr.rf (F_X7_build_25_l52 N (-w2) (0 : Int32) S hf)
theorem F_X7_build_25_b12 {N : Nat} {rec12 : Int32 → aSt → Option (aSt)} (hrec12 : ∀ (v1 : Int32) (S : aSt) {r : aSt}, rec12 v1 S = (some r) → aFr W_X7_build_25 S r) (v1 : Int32) (S : aSt) {r : aSt} (hf : X7_build_25_b12 N rec12 v1 S = (some r)) : aFr W_X7_build_25 S r := by
  unfold X7_build_25_b12 at hf
  rcases aIfE hf with ⟨-, hf⟩ | ⟨-, hf⟩
  · exact aFr.tr aFr.rf (F_X7_build_25_b40 S hf)
  · obtain ⟨w16, ew17, hf⟩ := aBnE hf
    obtain ⟨w18, ew19, hf⟩ := aLetE hf
    have hw18 : aFr W_X7_build_25 S w18 := aFr.tr aFr.rf ((F_X6_set_27 v1 w16 S ew19).mono (by decide))
    exact aFr.tr hw18 (hrec12 (v1 + (1 : Int32)) w18 hf)
theorem F_X7_build_25_l12 {N : Nat} : ∀ (n : Nat) (v1 : Int32) (S : aSt) {r : aSt}, X7_build_25_l12 N n v1 S = (some r) → aFr W_X7_build_25 S r
  | 0, _, _, _, h => nomatch (show (none : Option (aSt)) = some _ from h)
  | n + 1, v1, S, _, h => F_X7_build_25_b12 (fun v1 S _ h => F_X7_build_25_l12 n v1 S h) v1 S h
theorem F_X7_build_25 (N : Nat) (S : aSt) {r : aSt} (hf : X7_build_25 N S = (some r)) : aFr W_X7_build_25 S r := by
  unfold X7_build_25 at hf
  exact aFr.tr (aFr.L (aFr.I aFr.rf 25 0 _ (by decide)) 25 1 _ (by decide)) (F_X7_build_25_l12 N (0 : Int32) (aL (aI S 25 0 (0 : Int32)) 25 1 (0 : Int64)) hf)
def W_X5_take_28 : aWr := ([(28, 2), (28, 3)], [(28, 0), (28, 1), (28, 4)], [])
theorem F_X5_take_28 (a1 : Int32) (a2 : Int32) (S : aSt) {r : aSt} (hf : X5_take_28 a1 a2 S = r) : aFr W_X5_take_28 S r := by
  unfold X5_take_28 at hf
  obtain ⟨w1, ew2, hf⟩ := aLetE hf
  obtain ⟨w3, ew4, hf⟩ := aLetE hf
  rcases aIfE hf with ⟨-, hf⟩ | ⟨-, hf⟩
  · subst hf
    exact (aFr.L (aFr.L aFr.rf 28 0 _ (by decide)) 28 1 _ (by decide))
  · subst hf
    exact (aFr.I (aFr.I (aFr.L (aFr.L (aFr.L aFr.rf 28 0 _ (by decide)) 28 1 _ (by decide)) 28 4 _ (by decide)) 28 2 _ (by decide)) 28 3 _ (by decide))
def W_X5_findWith_28 : aWr := ([(28, 2), (28, 3)], [(28, 0), (28, 1), (28, 4)], [])
theorem F_X5_findWith_28_b72 {N : Nat} {rec12 : Int32 → Int32 → Int32 → Int32 → aSt → Option (aSt)} (hrec12 : ∀ (v1 : Int32) (v2 : Int32) (v3 : Int32) (v4 : Int32) (S : aSt) {r : aSt}, rec12 v1 v2 v3 v4 S = (some r) → aFr W_X5_findWith_28 S r) (v1 : Int32) (v2 : Int32) (v3 : Int32) (v4 : Int32) (S : aSt) {r : aSt} (hf : X5_findWith_28_b72 N rec12 v1 v2 v3 v4 S = (some r)) : aFr W_X5_findWith_28 S r := by
  unfold X5_findWith_28_b72 at hf
  obtain ⟨w6, ew7, hf⟩ := aLetE hf
  exact aFr.tr aFr.rf (hrec12 v1 v2 w6 (v4 + (1 : Int32)) S hf)
theorem F_X5_findWith_28_b12 {N : Nat} {rec12 : Int32 → Int32 → Int32 → Int32 → aSt → Option (aSt)} (hrec12 : ∀ (v1 : Int32) (v2 : Int32) (v3 : Int32) (v4 : Int32) (S : aSt) {r : aSt}, rec12 v1 v2 v3 v4 S = (some r) → aFr W_X5_findWith_28 S r) (v1 : Int32) (v2 : Int32) (v3 : Int32) (v4 : Int32) (S : aSt) {r : aSt} (hf : X5_findWith_28_b12 N rec12 v1 v2 v3 v4 S = (some r)) : aFr W_X5_findWith_28 S r := by
  unfold X5_findWith_28_b12 at hf
  rcases aIfE hf with ⟨-, hf⟩ | ⟨-, hf⟩
  · have e9 := Option.some.inj hf; subst e9
    exact aFr.rf
  · rcases aIfE hf with ⟨-, hf⟩ | ⟨-, hf⟩
    · have e9 := Option.some.inj hf; subst e9
      exact aFr.rf
    · rcases aIfE hf with ⟨-, hf⟩ | ⟨-, hf⟩
      · exact aFr.tr aFr.rf (F_X5_findWith_28_b72 hrec12 v1 v2 v3 v4 S hf)
      · obtain ⟨w8, ew9, hf⟩ := aLetE hf
        rcases aIfE hf with ⟨-, hf⟩ | ⟨-, hf⟩
        · obtain ⟨w11, ew12, hf⟩ := aLetE hf
          rcases aIfE hf with ⟨-, hf⟩ | ⟨-, hf⟩
          · exact aFr.tr aFr.rf (F_X5_findWith_28_b72 hrec12 v1 v2 v3 v4 S hf)
          · obtain ⟨w14, ew15, hf⟩ := aLetE hf
            rcases aIfE hf with ⟨-, hf⟩ | ⟨-, hf⟩
            · exact aFr.tr aFr.rf (F_X5_findWith_28_b72 hrec12 v1 v2 v3 v4 S hf)
            · obtain ⟨w17, ew18, hf⟩ := aLetE hf
              have hw17 : aFr W_X5_findWith_28 S w17 := aFr.tr aFr.rf ((F_X5_take_28 v1 v3 S ew18).mono (by decide))
              exact aFr.tr hw17 (F_X5_findWith_28_b72 hrec12 v1 v2 v3 v4 w17 hf)
        · exact aFr.tr aFr.rf (F_X5_findWith_28_b72 hrec12 v1 v2 v3 v4 S hf)
theorem F_X5_findWith_28_l12 {N : Nat} : ∀ (n : Nat) (v1 : Int32) (v2 : Int32) (v3 : Int32) (v4 : Int32) (S : aSt) {r : aSt}, X5_findWith_28_l12 N n v1 v2 v3 v4 S = (some r) → aFr W_X5_findWith_28 S r
  | 0, _, _, _, _, _, _, h => nomatch (show (none : Option (aSt)) = some _ from h)
  | n + 1, v1, v2, v3, v4, S, _, h => F_X5_findWith_28_b12 (fun v1 v2 v3 v4 S _ h => F_X5_findWith_28_l12 n v1 v2 v3 v4 S h) v1 v2 v3 v4 S h
theorem F_X5_findWith_28 (N : Nat) (a1 : Int32) (a2 : Int32) (S : aSt) {r : aSt} (hf : X5_findWith_28 N a1 a2 S = (some r)) : aFr W_X5_findWith_28 S r := by
  unfold X5_findWith_28 at hf
  obtain ⟨w1, ew2, hf⟩ := aBnE hf
  exact aFr.tr aFr.rf (F_X5_findWith_28_l12 N a1 a2 w1 (0 : Int32) S hf)
def W_X5_find_28 : aWr := ([(28, 2), (28, 3)], [(28, 0), (28, 1), (28, 4)], [])
theorem F_X5_find_28_b55 {N : Nat} {rec17 : Int32 → Int32 → aSt → Option (aSt)} (hrec17 : ∀ (v1 : Int32) (v2 : Int32) (S : aSt) {r : aSt}, rec17 v1 v2 S = (some r) → aFr W_X5_find_28 S r) (v1 : Int32) (v2 : Int32) (S : aSt) {r : aSt} (hf : X5_find_28_b55 N rec17 v1 v2 S = (some r)) : aFr W_X5_find_28 S r := by
  unfold X5_find_28_b55 at hf
  exact aFr.tr aFr.rf (hrec17 v1 (v2 + (1 : Int32)) S hf)
theorem F_X5_find_28_b17 {N : Nat} {rec17 : Int32 → Int32 → aSt → Option (aSt)} (hrec17 : ∀ (v1 : Int32) (v2 : Int32) (S : aSt) {r : aSt}, rec17 v1 v2 S = (some r) → aFr W_X5_find_28 S r) (v1 : Int32) (v2 : Int32) (S : aSt) {r : aSt} (hf : X5_find_28_b17 N rec17 v1 v2 S = (some r)) : aFr W_X5_find_28 S r := by
  unfold X5_find_28_b17 at hf
  rcases aIfE hf with ⟨-, hf⟩ | ⟨-, hf⟩
  · have e9 := Option.some.inj hf; subst e9
    exact aFr.rf
  · obtain ⟨w2, ew3, hf⟩ := aLetE hf
    rcases aIfE hf with ⟨-, hf⟩ | ⟨-, hf⟩
    · exact aFr.tr aFr.rf (F_X5_find_28_b55 hrec17 v1 v2 S hf)
    · obtain ⟨w5, ew6, hf⟩ := aLetE hf
      obtain ⟨w7, ew8, hf⟩ := aBnE hf
      have hw7 : aFr W_X5_find_28 S w7 := aFr.tr aFr.rf ((F_X5_findWith_28 N v2 (v1 - w5) S ew8).mono (by decide))
      exact aFr.tr hw7 (F_X5_find_28_b55 hrec17 v1 v2 w7 hf)
theorem F_X5_find_28_l17 {N : Nat} : ∀ (n : Nat) (v1 : Int32) (v2 : Int32) (S : aSt) {r : aSt}, X5_find_28_l17 N n v1 v2 S = (some r) → aFr W_X5_find_28 S r
  | 0, _, _, _, _, h => nomatch (show (none : Option (aSt)) = some _ from h)
  | n + 1, v1, v2, S, _, h => F_X5_find_28_b17 (fun v1 v2 S _ h => F_X5_find_28_l17 n v1 v2 S h) v1 v2 S h
theorem F_X5_find_28 (N : Nat) (a1 : Int32) (S : aSt) {r : aSt} (hf : X5_find_28 N a1 S = (some r)) : aFr W_X5_find_28 S r := by
  unfold X5_find_28 at hf
  exact aFr.tr (aFr.L (aFr.L (aFr.L aFr.rf 28 0 _ (by decide)) 28 1 _ (by decide)) 28 4 _ (by decide)) (F_X5_find_28_l17 N a1 (0 : Int32) (aL (aL (aL S 28 0 (0 : Int64)) 28 1 (0 : Int64)) 28 4 (0 : Int64)) hf)
def W_X5_take_29 : aWr := ([(29, 2), (29, 3)], [(29, 0), (29, 1), (29, 4)], [])
theorem F_X5_take_29 (a1 : Int32) (a2 : Int32) (S : aSt) {r : aSt} (hf : X5_take_29 a1 a2 S = r) : aFr W_X5_take_29 S r := by
  unfold X5_take_29 at hf
  obtain ⟨w1, ew2, hf⟩ := aLetE hf
  obtain ⟨w3, ew4, hf⟩ := aLetE hf
  rcases aIfE hf with ⟨-, hf⟩ | ⟨-, hf⟩
  · subst hf
    exact (aFr.L (aFr.L aFr.rf 29 0 _ (by decide)) 29 1 _ (by decide))
  · subst hf
    exact (aFr.I (aFr.I (aFr.L (aFr.L (aFr.L aFr.rf 29 0 _ (by decide)) 29 1 _ (by decide)) 29 4 _ (by decide)) 29 2 _ (by decide)) 29 3 _ (by decide))
def W_X5_findWith_29 : aWr := ([(29, 2), (29, 3)], [(29, 0), (29, 1), (29, 4)], [])
theorem F_X5_findWith_29_b72 {N : Nat} {rec12 : Int32 → Int32 → Int32 → Int32 → aSt → Option (aSt)} (hrec12 : ∀ (v1 : Int32) (v2 : Int32) (v3 : Int32) (v4 : Int32) (S : aSt) {r : aSt}, rec12 v1 v2 v3 v4 S = (some r) → aFr W_X5_findWith_29 S r) (v1 : Int32) (v2 : Int32) (v3 : Int32) (v4 : Int32) (S : aSt) {r : aSt} (hf : X5_findWith_29_b72 N rec12 v1 v2 v3 v4 S = (some r)) : aFr W_X5_findWith_29 S r := by
  unfold X5_findWith_29_b72 at hf
  obtain ⟨w6, ew7, hf⟩ := aLetE hf
  exact aFr.tr aFr.rf (hrec12 v1 v2 w6 (v4 + (1 : Int32)) S hf)
theorem F_X5_findWith_29_b12 {N : Nat} {rec12 : Int32 → Int32 → Int32 → Int32 → aSt → Option (aSt)} (hrec12 : ∀ (v1 : Int32) (v2 : Int32) (v3 : Int32) (v4 : Int32) (S : aSt) {r : aSt}, rec12 v1 v2 v3 v4 S = (some r) → aFr W_X5_findWith_29 S r) (v1 : Int32) (v2 : Int32) (v3 : Int32) (v4 : Int32) (S : aSt) {r : aSt} (hf : X5_findWith_29_b12 N rec12 v1 v2 v3 v4 S = (some r)) : aFr W_X5_findWith_29 S r := by
  unfold X5_findWith_29_b12 at hf
  rcases aIfE hf with ⟨-, hf⟩ | ⟨-, hf⟩
  · have e9 := Option.some.inj hf; subst e9
    exact aFr.rf
  · rcases aIfE hf with ⟨-, hf⟩ | ⟨-, hf⟩
    · have e9 := Option.some.inj hf; subst e9
      exact aFr.rf
    · rcases aIfE hf with ⟨-, hf⟩ | ⟨-, hf⟩
      · exact aFr.tr aFr.rf (F_X5_findWith_29_b72 hrec12 v1 v2 v3 v4 S hf)
      · obtain ⟨w8, ew9, hf⟩ := aLetE hf
        rcases aIfE hf with ⟨-, hf⟩ | ⟨-, hf⟩
        · obtain ⟨w11, ew12, hf⟩ := aLetE hf
          rcases aIfE hf with ⟨-, hf⟩ | ⟨-, hf⟩
          · exact aFr.tr aFr.rf (F_X5_findWith_29_b72 hrec12 v1 v2 v3 v4 S hf)
          · obtain ⟨w14, ew15, hf⟩ := aLetE hf
            rcases aIfE hf with ⟨-, hf⟩ | ⟨-, hf⟩
            · exact aFr.tr aFr.rf (F_X5_findWith_29_b72 hrec12 v1 v2 v3 v4 S hf)
            · obtain ⟨w17, ew18, hf⟩ := aLetE hf
              have hw17 : aFr W_X5_findWith_29 S w17 := aFr.tr aFr.rf ((F_X5_take_29 v1 v3 S ew18).mono (by decide))
              exact aFr.tr hw17 (F_X5_findWith_29_b72 hrec12 v1 v2 v3 v4 w17 hf)
        · exact aFr.tr aFr.rf (F_X5_findWith_29_b72 hrec12 v1 v2 v3 v4 S hf)
theorem F_X5_findWith_29_l12 {N : Nat} : ∀ (n : Nat) (v1 : Int32) (v2 : Int32) (v3 : Int32) (v4 : Int32) (S : aSt) {r : aSt}, X5_findWith_29_l12 N n v1 v2 v3 v4 S = (some r) → aFr W_X5_findWith_29 S r
  | 0, _, _, _, _, _, _, h => nomatch (show (none : Option (aSt)) = some _ from h)
  | n + 1, v1, v2, v3, v4, S, _, h => F_X5_findWith_29_b12 (fun v1 v2 v3 v4 S _ h => F_X5_findWith_29_l12 n v1 v2 v3 v4 S h) v1 v2 v3 v4 S h
theorem F_X5_findWith_29 (N : Nat) (a1 : Int32) (a2 : Int32) (S : aSt) {r : aSt} (hf : X5_findWith_29 N a1 a2 S = (some r)) : aFr W_X5_findWith_29 S r := by
  unfold X5_findWith_29 at hf
  obtain ⟨w1, ew2, hf⟩ := aBnE hf
  exact aFr.tr aFr.rf (F_X5_findWith_29_l12 N a1 a2 w1 (0 : Int32) S hf)
def W_X5_find_29 : aWr := ([(29, 2), (29, 3)], [(29, 0), (29, 1), (29, 4)], [])
theorem F_X5_find_29_b55 {N : Nat} {rec17 : Int32 → Int32 → aSt → Option (aSt)} (hrec17 : ∀ (v1 : Int32) (v2 : Int32) (S : aSt) {r : aSt}, rec17 v1 v2 S = (some r) → aFr W_X5_find_29 S r) (v1 : Int32) (v2 : Int32) (S : aSt) {r : aSt} (hf : X5_find_29_b55 N rec17 v1 v2 S = (some r)) : aFr W_X5_find_29 S r := by
  unfold X5_find_29_b55 at hf
  exact aFr.tr aFr.rf (hrec17 v1 (v2 + (1 : Int32)) S hf)
theorem F_X5_find_29_b17 {N : Nat} {rec17 : Int32 → Int32 → aSt → Option (aSt)} (hrec17 : ∀ (v1 : Int32) (v2 : Int32) (S : aSt) {r : aSt}, rec17 v1 v2 S = (some r) → aFr W_X5_find_29 S r) (v1 : Int32) (v2 : Int32) (S : aSt) {r : aSt} (hf : X5_find_29_b17 N rec17 v1 v2 S = (some r)) : aFr W_X5_find_29 S r := by
  unfold X5_find_29_b17 at hf
  rcases aIfE hf with ⟨-, hf⟩ | ⟨-, hf⟩
  · have e9 := Option.some.inj hf; subst e9
    exact aFr.rf
  · obtain ⟨w2, ew3, hf⟩ := aLetE hf
    rcases aIfE hf with ⟨-, hf⟩ | ⟨-, hf⟩
    · exact aFr.tr aFr.rf (F_X5_find_29_b55 hrec17 v1 v2 S hf)
    · obtain ⟨w5, ew6, hf⟩ := aLetE hf
      obtain ⟨w7, ew8, hf⟩ := aBnE hf
      have hw7 : aFr W_X5_find_29 S w7 := aFr.tr aFr.rf ((F_X5_findWith_29 N v2 (v1 - w5) S ew8).mono (by decide))
      exact aFr.tr hw7 (F_X5_find_29_b55 hrec17 v1 v2 w7 hf)
theorem F_X5_find_29_l17 {N : Nat} : ∀ (n : Nat) (v1 : Int32) (v2 : Int32) (S : aSt) {r : aSt}, X5_find_29_l17 N n v1 v2 S = (some r) → aFr W_X5_find_29 S r
  | 0, _, _, _, _, h => nomatch (show (none : Option (aSt)) = some _ from h)
  | n + 1, v1, v2, S, _, h => F_X5_find_29_b17 (fun v1 v2 S _ h => F_X5_find_29_l17 n v1 v2 S h) v1 v2 S h
theorem F_X5_find_29 (N : Nat) (a1 : Int32) (S : aSt) {r : aSt} (hf : X5_find_29 N a1 S = (some r)) : aFr W_X5_find_29 S r := by
  unfold X5_find_29 at hf
  exact aFr.tr (aFr.L (aFr.L (aFr.L aFr.rf 29 0 _ (by decide)) 29 1 _ (by decide)) 29 4 _ (by decide)) (F_X5_find_29_l17 N a1 (0 : Int32) (aL (aL (aL S 29 0 (0 : Int64)) 29 1 (0 : Int64)) 29 4 (0 : Int64)) hf)
def W_J7_fill_53178_31 : aWr := ([], [], [31])
theorem F_J7_fill_53178_31_b5 {N : Nat} {rec5 : Int32 → Int32 → Int32 → aSt → Option (aSt)} (hrec5 : ∀ (v1 : Int32) (v2 : Int32) (v3 : Int32) (S : aSt) {r : aSt}, rec5 v1 v2 v3 S = (some r) → aFr W_J7_fill_53178_31 S r) (v1 : Int32) (v2 : Int32) (v3 : Int32) (S : aSt) {r : aSt} (hf : J7_fill_53178_31_b5 N rec5 v1 v2 v3 S = (some r)) : aFr W_J7_fill_53178_31 S r := by
  unfold J7_fill_53178_31_b5 at hf
  rcases aIfE hf with ⟨-, hf⟩ | ⟨-, hf⟩
  · have e9 := Option.some.inj hf; subst e9
    exact aFr.rf
  · obtain ⟨-, hf⟩ := aGdE hf
    exact aFr.tr (aFr.A aFr.rf 31 _ (by decide)) (hrec5 v1 (v2 + (1 : Int32)) v3 (aA S 31 (upd (S.2.2 31) v2.toNatClampNeg v1)) hf)
theorem F_J7_fill_53178_31_l5 {N : Nat} : ∀ (n : Nat) (v1 : Int32) (v2 : Int32) (v3 : Int32) (S : aSt) {r : aSt}, J7_fill_53178_31_l5 N n v1 v2 v3 S = (some r) → aFr W_J7_fill_53178_31 S r
  | 0, _, _, _, _, _, h => nomatch (show (none : Option (aSt)) = some _ from h)
  | n + 1, v1, v2, v3, S, _, h => F_J7_fill_53178_31_b5 (fun v1 v2 v3 S _ h => F_J7_fill_53178_31_l5 n v1 v2 v3 S h) v1 v2 v3 S h
theorem F_J7_fill_53178_31 (N : Nat) (a1 : Int32) (S : aSt) {r : aSt} (hf : J7_fill_53178_31 N a1 S = (some r)) : aFr W_J7_fill_53178_31 S r := by
  unfold J7_fill_53178_31 at hf
  exact aFr.tr aFr.rf (F_J7_fill_53178_31_l5 N a1 (0 : Int32) (30 : Int32) S hf)
def W_X3_sumUp_30 : aWr := ([], [(30, 1), (30, 2)], [])
theorem F_X3_sumUp_30_b14 {N : Nat} {rec14 : Int64 → Int32 → aSt → Option (aSt)} (hrec14 : ∀ (v1 : Int64) (v3 : Int32) (S : aSt) {r : aSt}, rec14 v1 v3 S = (some r) → aFr W_X3_sumUp_30 S r) (v1 : Int64) (v3 : Int32) (S : aSt) {r : aSt} (hf : X3_sumUp_30_b14 N rec14 v1 v3 S = (some r)) : aFr W_X3_sumUp_30 S r := by
  unfold X3_sumUp_30_b14 at hf
  rcases aIfE hf with ⟨-, hf⟩ | ⟨-, hf⟩
  · have e9 := Option.some.inj hf; subst e9
    exact aFr.rf
  · obtain ⟨w2, ew3, hf⟩ := aLetE hf
    obtain ⟨w4, ew5, hf⟩ := aLetE hf
    obtain ⟨w6, ew7, hf⟩ := aLetE hf
    exact aFr.tr (aFr.L (aFr.L aFr.rf 30 1 _ (by decide)) 30 2 _ (by decide)) (hrec14 (v1 + (w6.toInt64)) (v3 + (1 : Int32)) (aL (aL S 30 1 ((S.2.1 30 1) + ((w4.toInt64) * (v1 + (w6.toInt64))))) 30 2 ((S.2.1 30 2) + (w4.toInt64))) hf)
theorem F_X3_sumUp_30_l14 {N : Nat} : ∀ (n : Nat) (v1 : Int64) (v3 : Int32) (S : aSt) {r : aSt}, X3_sumUp_30_l14 N n v1 v3 S = (some r) → aFr W_X3_sumUp_30 S r
  | 0, _, _, _, _, h => nomatch (show (none : Option (aSt)) = some _ from h)
  | n + 1, v1, v3, S, _, h => F_X3_sumUp_30_b14 (fun v1 v3 S _ h => F_X3_sumUp_30_l14 n v1 v3 S h) v1 v3 S h
theorem F_X3_sumUp_30 (N : Nat) (S : aSt) {r : aSt} (hf : X3_sumUp_30 N S = (some r)) : aFr W_X3_sumUp_30 S r := by
  unfold X3_sumUp_30 at hf
  exact aFr.tr (aFr.L (aFr.L aFr.rf 30 1 _ (by decide)) 30 2 _ (by decide)) (F_X3_sumUp_30_l14 N (0 : Int64) (0 : Int32) (aL (aL S 30 1 (0 : Int64)) 30 2 (0 : Int64)) hf)
def W_X6_set_32 : aWr := ([], [], [32])
theorem F_X6_set_32 (a1 : Int32) (a2 : Int32) (S : aSt) {r : aSt} (hf : X6_set_32 a1 a2 S = r) : aFr W_X6_set_32 S r := by
  unfold X6_set_32 at hf
  rcases aIfE hf with ⟨-, hf⟩ | ⟨-, hf⟩
  · subst hf
    exact aFr.rf
  · rcases aIfE hf with ⟨-, hf⟩ | ⟨-, hf⟩
    · subst hf
      exact aFr.rf
    · subst hf
      exact (aFr.A aFr.rf 32 _ (by decide))
def W_X6_set_33 : aWr := ([], [], [33])
theorem F_X6_set_33 (a1 : Int32) (a2 : Int32) (S : aSt) {r : aSt} (hf : X6_set_33 a1 a2 S = r) : aFr W_X6_set_33 S r := by
  unfold X6_set_33 at hf
  rcases aIfE hf with ⟨-, hf⟩ | ⟨-, hf⟩
  · subst hf
    exact aFr.rf
  · rcases aIfE hf with ⟨-, hf⟩ | ⟨-, hf⟩
    · subst hf
      exact aFr.rf
    · subst hf
      exact (aFr.A aFr.rf 33 _ (by decide))
def W_X3_insert_30 : aWr := ([(30, 0)], [], [33])
theorem F_X3_insert_30_b51 {N : Nat} (v1 : Int32) (v2 : Int32) (S : aSt) {r : aSt} (hf : X3_insert_30_b51 N v1 v2 S = (some r)) : aFr W_X3_insert_30 S r := by
  unfold X3_insert_30_b51 at hf
  obtain ⟨w2, ew3, hf⟩ := aLetE hf
  have hw2 : aFr W_X3_insert_30 S w2 := aFr.tr aFr.rf ((F_X6_set_33 v2 v1 S ew3).mono (by decide))
  have e9 := Option.some.inj hf; subst e9
  exact (aFr.I hw2 30 0 _ (by decide))
theorem F_X3_insert_30_b5 {N : Nat} {rec5 : Int32 → Int32 → aSt → Option (aSt)} (hrec5 : ∀ (v1 : Int32) (v2 : Int32) (S : aSt) {r : aSt}, rec5 v1 v2 S = (some r) → aFr W_X3_insert_30 S r) (v1 : Int32) (v2 : Int32) (S : aSt) {r : aSt} (hf : X3_insert_30_b5 N rec5 v1 v2 S = (some r)) : aFr W_X3_insert_30 S r := by
  unfold X3_insert_30_b5 at hf
  rcases aIfE hf with ⟨-, hf⟩ | ⟨-, hf⟩
  · exact aFr.tr aFr.rf (F_X3_insert_30_b51 v1 v2 S hf)
  · obtain ⟨w4, ew5, hf⟩ := aLetE hf
    obtain ⟨w6, ew7, hf⟩ := aLetE hf
    rcases aIfE hf with ⟨-, hf⟩ | ⟨-, hf⟩
    · exact aFr.tr aFr.rf (F_X3_insert_30_b51 v1 v2 S hf)
    · obtain ⟨w9, ew10, hf⟩ := aLetE hf
      obtain ⟨w11, ew12, hf⟩ := aLetE hf
      have hw11 : aFr W_X3_insert_30 S w11 := aFr.tr aFr.rf ((F_X6_set_33 v2 w9 S ew12).mono (by decide))
      exact aFr.tr hw11 (hrec5 v1 (v2 + ((-1) : Int32)) w11 hf)
theorem F_X3_insert_30_l5 {N : Nat} : ∀ (n : Nat) (v1 : Int32) (v2 : Int32) (S : aSt) {r : aSt}, X3_insert_30_l5 N n v1 v2 S = (some r) → aFr W_X3_insert_30 S r
  | 0, _, _, _, _, h => nomatch (show (none : Option (aSt)) = some _ from h)
  | n + 1, v1, v2, S, _, h => F_X3_insert_30_b5 (fun v1 v2 S _ h => F_X3_insert_30_l5 n v1 v2 S h) v1 v2 S h
theorem F_X3_insert_30 (N : Nat) (a1 : Int32) (S : aSt) {r : aSt} (hf : X3_insert_30 N a1 S = (some r)) : aFr W_X3_insert_30 S r := by
  unfold X3_insert_30 at hf
  exact aFr.tr aFr.rf (F_X3_insert_30_l5 N a1 (S.1 30 0) S hf)
def W_X6_set_31 : aWr := ([], [], [31])
theorem F_X6_set_31 (a1 : Int32) (a2 : Int32) (S : aSt) {r : aSt} (hf : X6_set_31 a1 a2 S = r) : aFr W_X6_set_31 S r := by
  unfold X6_set_31 at hf
  rcases aIfE hf with ⟨-, hf⟩ | ⟨-, hf⟩
  · subst hf
    exact aFr.rf
  · rcases aIfE hf with ⟨-, hf⟩ | ⟨-, hf⟩
    · subst hf
      exact aFr.rf
    · subst hf
      exact (aFr.A aFr.rf 31 _ (by decide))
def W_X3_build_30 : aWr := ([(30, 0)], [(30, 1), (30, 2)], [31, 32, 33])
theorem F_X3_build_30_b142 {N : Nat} (S : aSt) {r : aSt} (hf : X3_build_30_b142 N S = (some r)) : aFr W_X3_build_30 S r := by
  unfold X3_build_30_b142 at hf
  obtain ⟨w5, ew6, hf⟩ := aBnE hf
  have hw5 : aFr W_X3_build_30 S w5 := aFr.tr aFr.rf ((F_X3_sumUp_30 N  S ew6).mono (by decide))
  have e9 := Option.some.inj hf; subst e9
  exact hw5
theorem F_X3_build_30_b136 {N : Nat} {rec89 : Int32 → aSt → Option (aSt)} (hrec89 : ∀ (v1 : Int32) (S : aSt) {r : aSt}, rec89 v1 S = (some r) → aFr W_X3_build_30 S r) (v1 : Int32) (S : aSt) {r : aSt} (hf : X3_build_30_b136 N rec89 v1 S = (some r)) : aFr W_X3_build_30 S r := by
  unfold X3_build_30_b136 at hf
  exact aFr.tr aFr.rf (hrec89 (v1 + (1 : Int32)) S hf)
theorem F_X3_build_30_b89 {N : Nat} {rec89 : Int32 → aSt → Option (aSt)} (hrec89 : ∀ (v1 : Int32) (S : aSt) {r : aSt}, rec89 v1 S = (some r) → aFr W_X3_build_30 S r) (v1 : Int32) (S : aSt) {r : aSt} (hf : X3_build_30_b89 N rec89 v1 S = (some r)) : aFr W_X3_build_30 S r := by
  unfold X3_build_30_b89 at hf
  rcases aIfE hf with ⟨-, hf⟩ | ⟨-, hf⟩
  · exact aFr.tr aFr.rf (F_X3_build_30_b142 S hf)
  · obtain ⟨w7, ew8, hf⟩ := aLetE hf
    obtain ⟨w9, ew10, hf⟩ := aBnE hf
    obtain ⟨w11, ew12, hf⟩ := aLetE hf
    have hw11 : aFr W_X3_build_30 S w11 := aFr.tr aFr.rf ((F_X6_set_32 v1 w9 S ew12).mono (by decide))
    obtain ⟨w13, ew14, hf⟩ := aLetE hf
    rcases aIfE hf with ⟨-, hf⟩ | ⟨-, hf⟩
    · exact aFr.tr hw11 (F_X3_build_30_b136 hrec89 v1 w11 hf)
    · obtain ⟨w16, ew17, hf⟩ := aBnE hf
      have hw16 : aFr W_X3_build_30 S w16 := aFr.tr hw11 ((F_X3_insert_30 N v1 w11 ew17).mono (by decide))
      exact aFr.tr hw16 (F_X3_build_30_b136 hrec89 v1 w16 hf)
theorem F_X3_build_30_l89 {N : Nat} : ∀ (n : Nat) (v1 : Int32) (S : aSt) {r : aSt}, X3_build_30_l89 N n v1 S = (some r) → aFr W_X3_build_30 S r
  | 0, _, _, _, h => nomatch (show (none : Option (aSt)) = some _ from h)
  | n + 1, v1, S, _, h => F_X3_build_30_b89 (fun v1 S _ h => F_X3_build_30_l89 n v1 S h) v1 S h
theorem F_X3_build_30_b87 {N : Nat} (S : aSt) {r : aSt} (hf : X3_build_30_b87 N S = (some r)) : aFr W_X3_build_30 S r := by
  unfold X3_build_30_b87 at hf
  exact aFr.tr aFr.rf (F_X3_build_30_l89 N (0 : Int32) S hf)
theorem F_X3_build_30_b81 {N : Nat} {rec15 : Int32 → aSt → Option (aSt)} (hrec15 : ∀ (v1 : Int32) (S : aSt) {r : aSt}, rec15 v1 S = (some r) → aFr W_X3_build_30 S r) (v1 : Int32) (S : aSt) {r : aSt} (hf : X3_build_30_b81 N rec15 v1 S = (some r)) : aFr W_X3_build_30 S r := by
  unfold X3_build_30_b81 at hf
  exact aFr.tr aFr.rf (hrec15 (v1 + (1 : Int32)) S hf)
theorem F_X3_build_30_b15 {N : Nat} {rec15 : Int32 → aSt → Option (aSt)} (hrec15 : ∀ (v1 : Int32) (S : aSt) {r : aSt}, rec15 v1 S = (some r) → aFr W_X3_build_30 S r) (v1 : Int32) (S : aSt) {r : aSt} (hf : X3_build_30_b15 N rec15 v1 S = (some r)) : aFr W_X3_build_30 S r := by
  unfold X3_build_30_b15 at hf
  rcases aIfE hf with ⟨-, hf⟩ | ⟨-, hf⟩
  · exact aFr.tr aFr.rf (F_X3_build_30_b87 S hf)
  · obtain ⟨w18, ew19, hf⟩ := aLetE hf
    obtain ⟨w20, ew21, hf⟩ := aLetE hf
    rcases aIfE hf with ⟨-, hf⟩ | ⟨-, hf⟩
    · exact aFr.tr aFr.rf (F_X3_build_30_b81 hrec15 v1 S hf)
    · obtain ⟨w23, ew24, hf⟩ := aLetE hf
      obtain ⟨w25, ew26, hf⟩ := aLetE hf
      obtain ⟨w27, ew28, hf⟩ := aLetE hf
      obtain ⟨w29, ew30, hf⟩ := aLetE hf
      have hw29 : aFr W_X3_build_30 S w29 := aFr.tr aFr.rf ((F_X6_set_31 w23 (w25 + w27) S ew30).mono (by decide))
      exact aFr.tr hw29 (F_X3_build_30_b81 hrec15 v1 w29 hf)
theorem F_X3_build_30_l15 {N : Nat} : ∀ (n : Nat) (v1 : Int32) (S : aSt) {r : aSt}, X3_build_30_l15 N n v1 S = (some r) → aFr W_X3_build_30 S r
  | 0, _, _, _, h => nomatch (show (none : Option (aSt)) = some _ from h)
  | n + 1, v1, S, _, h => F_X3_build_30_b15 (fun v1 S _ h => F_X3_build_30_l15 n v1 S h) v1 S h
theorem F_X3_build_30 (N : Nat) (S : aSt) {r : aSt} (hf : X3_build_30 N S = (some r)) : aFr W_X3_build_30 S r := by
  unfold X3_build_30 at hf
  obtain ⟨w1, ew2, hf⟩ := aBnE hf
  have hw1 : aFr W_X3_build_30 S w1 := aFr.tr (aFr.I aFr.rf 30 0 _ (by decide)) ((F_J7_fill_53178_31 N (0 : Int32) (aI S 30 0 (0 : Int32)) ew2).mono (by decide))
  exact aFr.tr hw1 (F_X3_build_30_l15 N (0 : Int32) w1 hf)
def W_J7_fill_53178_35 : aWr := ([], [], [35])
theorem F_J7_fill_53178_35_b5 {N : Nat} {rec5 : Int32 → Int32 → Int32 → aSt → Option (aSt)} (hrec5 : ∀ (v1 : Int32) (v2 : Int32) (v3 : Int32) (S : aSt) {r : aSt}, rec5 v1 v2 v3 S = (some r) → aFr W_J7_fill_53178_35 S r) (v1 : Int32) (v2 : Int32) (v3 : Int32) (S : aSt) {r : aSt} (hf : J7_fill_53178_35_b5 N rec5 v1 v2 v3 S = (some r)) : aFr W_J7_fill_53178_35 S r := by
  unfold J7_fill_53178_35_b5 at hf
  rcases aIfE hf with ⟨-, hf⟩ | ⟨-, hf⟩
  · have e9 := Option.some.inj hf; subst e9
    exact aFr.rf
  · obtain ⟨-, hf⟩ := aGdE hf
    exact aFr.tr (aFr.A aFr.rf 35 _ (by decide)) (hrec5 v1 (v2 + (1 : Int32)) v3 (aA S 35 (upd (S.2.2 35) v2.toNatClampNeg v1)) hf)
theorem F_J7_fill_53178_35_l5 {N : Nat} : ∀ (n : Nat) (v1 : Int32) (v2 : Int32) (v3 : Int32) (S : aSt) {r : aSt}, J7_fill_53178_35_l5 N n v1 v2 v3 S = (some r) → aFr W_J7_fill_53178_35 S r
  | 0, _, _, _, _, _, h => nomatch (show (none : Option (aSt)) = some _ from h)
  | n + 1, v1, v2, v3, S, _, h => F_J7_fill_53178_35_b5 (fun v1 v2 v3 S _ h => F_J7_fill_53178_35_l5 n v1 v2 v3 S h) v1 v2 v3 S h
theorem F_J7_fill_53178_35 (N : Nat) (a1 : Int32) (S : aSt) {r : aSt} (hf : J7_fill_53178_35 N a1 S = (some r)) : aFr W_J7_fill_53178_35 S r := by
  unfold J7_fill_53178_35 at hf
  exact aFr.tr aFr.rf (F_J7_fill_53178_35_l5 N a1 (0 : Int32) (30 : Int32) S hf)
def W_X3_sumUp_34 : aWr := ([], [(34, 1), (34, 2)], [])
theorem F_X3_sumUp_34_b14 {N : Nat} {rec14 : Int64 → Int32 → aSt → Option (aSt)} (hrec14 : ∀ (v1 : Int64) (v3 : Int32) (S : aSt) {r : aSt}, rec14 v1 v3 S = (some r) → aFr W_X3_sumUp_34 S r) (v1 : Int64) (v3 : Int32) (S : aSt) {r : aSt} (hf : X3_sumUp_34_b14 N rec14 v1 v3 S = (some r)) : aFr W_X3_sumUp_34 S r := by
  unfold X3_sumUp_34_b14 at hf
  rcases aIfE hf with ⟨-, hf⟩ | ⟨-, hf⟩
  · have e9 := Option.some.inj hf; subst e9
    exact aFr.rf
  · obtain ⟨w2, ew3, hf⟩ := aLetE hf
    obtain ⟨w4, ew5, hf⟩ := aLetE hf
    obtain ⟨w6, ew7, hf⟩ := aLetE hf
    exact aFr.tr (aFr.L (aFr.L aFr.rf 34 1 _ (by decide)) 34 2 _ (by decide)) (hrec14 (v1 + (w6.toInt64)) (v3 + (1 : Int32)) (aL (aL S 34 1 ((S.2.1 34 1) + ((w4.toInt64) * (v1 + (w6.toInt64))))) 34 2 ((S.2.1 34 2) + (w4.toInt64))) hf)
theorem F_X3_sumUp_34_l14 {N : Nat} : ∀ (n : Nat) (v1 : Int64) (v3 : Int32) (S : aSt) {r : aSt}, X3_sumUp_34_l14 N n v1 v3 S = (some r) → aFr W_X3_sumUp_34 S r
  | 0, _, _, _, _, h => nomatch (show (none : Option (aSt)) = some _ from h)
  | n + 1, v1, v3, S, _, h => F_X3_sumUp_34_b14 (fun v1 v3 S _ h => F_X3_sumUp_34_l14 n v1 v3 S h) v1 v3 S h
theorem F_X3_sumUp_34 (N : Nat) (S : aSt) {r : aSt} (hf : X3_sumUp_34 N S = (some r)) : aFr W_X3_sumUp_34 S r := by
  unfold X3_sumUp_34 at hf
  exact aFr.tr (aFr.L (aFr.L aFr.rf 34 1 _ (by decide)) 34 2 _ (by decide)) (F_X3_sumUp_34_l14 N (0 : Int64) (0 : Int32) (aL (aL S 34 1 (0 : Int64)) 34 2 (0 : Int64)) hf)
def W_X6_set_36 : aWr := ([], [], [36])
theorem F_X6_set_36 (a1 : Int32) (a2 : Int32) (S : aSt) {r : aSt} (hf : X6_set_36 a1 a2 S = r) : aFr W_X6_set_36 S r := by
  unfold X6_set_36 at hf
  rcases aIfE hf with ⟨-, hf⟩ | ⟨-, hf⟩
  · subst hf
    exact aFr.rf
  · rcases aIfE hf with ⟨-, hf⟩ | ⟨-, hf⟩
    · subst hf
      exact aFr.rf
    · subst hf
      exact (aFr.A aFr.rf 36 _ (by decide))
def W_X6_set_37 : aWr := ([], [], [37])
theorem F_X6_set_37 (a1 : Int32) (a2 : Int32) (S : aSt) {r : aSt} (hf : X6_set_37 a1 a2 S = r) : aFr W_X6_set_37 S r := by
  unfold X6_set_37 at hf
  rcases aIfE hf with ⟨-, hf⟩ | ⟨-, hf⟩
  · subst hf
    exact aFr.rf
  · rcases aIfE hf with ⟨-, hf⟩ | ⟨-, hf⟩
    · subst hf
      exact aFr.rf
    · subst hf
      exact (aFr.A aFr.rf 37 _ (by decide))
def W_X3_insert_34 : aWr := ([(34, 0)], [], [37])
theorem F_X3_insert_34_b51 {N : Nat} (v1 : Int32) (v2 : Int32) (S : aSt) {r : aSt} (hf : X3_insert_34_b51 N v1 v2 S = (some r)) : aFr W_X3_insert_34 S r := by
  unfold X3_insert_34_b51 at hf
  obtain ⟨w2, ew3, hf⟩ := aLetE hf
  have hw2 : aFr W_X3_insert_34 S w2 := aFr.tr aFr.rf ((F_X6_set_37 v2 v1 S ew3).mono (by decide))
  have e9 := Option.some.inj hf; subst e9
  exact (aFr.I hw2 34 0 _ (by decide))
theorem F_X3_insert_34_b5 {N : Nat} {rec5 : Int32 → Int32 → aSt → Option (aSt)} (hrec5 : ∀ (v1 : Int32) (v2 : Int32) (S : aSt) {r : aSt}, rec5 v1 v2 S = (some r) → aFr W_X3_insert_34 S r) (v1 : Int32) (v2 : Int32) (S : aSt) {r : aSt} (hf : X3_insert_34_b5 N rec5 v1 v2 S = (some r)) : aFr W_X3_insert_34 S r := by
  unfold X3_insert_34_b5 at hf
  rcases aIfE hf with ⟨-, hf⟩ | ⟨-, hf⟩
  · exact aFr.tr aFr.rf (F_X3_insert_34_b51 v1 v2 S hf)
  · obtain ⟨w4, ew5, hf⟩ := aLetE hf
    obtain ⟨w6, ew7, hf⟩ := aLetE hf
    rcases aIfE hf with ⟨-, hf⟩ | ⟨-, hf⟩
    · exact aFr.tr aFr.rf (F_X3_insert_34_b51 v1 v2 S hf)
    · obtain ⟨w9, ew10, hf⟩ := aLetE hf
      obtain ⟨w11, ew12, hf⟩ := aLetE hf
      have hw11 : aFr W_X3_insert_34 S w11 := aFr.tr aFr.rf ((F_X6_set_37 v2 w9 S ew12).mono (by decide))
      exact aFr.tr hw11 (hrec5 v1 (v2 + ((-1) : Int32)) w11 hf)
theorem F_X3_insert_34_l5 {N : Nat} : ∀ (n : Nat) (v1 : Int32) (v2 : Int32) (S : aSt) {r : aSt}, X3_insert_34_l5 N n v1 v2 S = (some r) → aFr W_X3_insert_34 S r
  | 0, _, _, _, _, h => nomatch (show (none : Option (aSt)) = some _ from h)
  | n + 1, v1, v2, S, _, h => F_X3_insert_34_b5 (fun v1 v2 S _ h => F_X3_insert_34_l5 n v1 v2 S h) v1 v2 S h
theorem F_X3_insert_34 (N : Nat) (a1 : Int32) (S : aSt) {r : aSt} (hf : X3_insert_34 N a1 S = (some r)) : aFr W_X3_insert_34 S r := by
  unfold X3_insert_34 at hf
  exact aFr.tr aFr.rf (F_X3_insert_34_l5 N a1 (S.1 34 0) S hf)
def W_X6_set_35 : aWr := ([], [], [35])
theorem F_X6_set_35 (a1 : Int32) (a2 : Int32) (S : aSt) {r : aSt} (hf : X6_set_35 a1 a2 S = r) : aFr W_X6_set_35 S r := by
  unfold X6_set_35 at hf
  rcases aIfE hf with ⟨-, hf⟩ | ⟨-, hf⟩
  · subst hf
    exact aFr.rf
  · rcases aIfE hf with ⟨-, hf⟩ | ⟨-, hf⟩
    · subst hf
      exact aFr.rf
    · subst hf
      exact (aFr.A aFr.rf 35 _ (by decide))
def W_X3_build_34 : aWr := ([(34, 0)], [(34, 1), (34, 2)], [35, 36, 37])
theorem F_X3_build_34_b142 {N : Nat} (S : aSt) {r : aSt} (hf : X3_build_34_b142 N S = (some r)) : aFr W_X3_build_34 S r := by
  unfold X3_build_34_b142 at hf
  obtain ⟨w5, ew6, hf⟩ := aBnE hf
  have hw5 : aFr W_X3_build_34 S w5 := aFr.tr aFr.rf ((F_X3_sumUp_34 N  S ew6).mono (by decide))
  have e9 := Option.some.inj hf; subst e9
  exact hw5
theorem F_X3_build_34_b136 {N : Nat} {rec89 : Int32 → aSt → Option (aSt)} (hrec89 : ∀ (v1 : Int32) (S : aSt) {r : aSt}, rec89 v1 S = (some r) → aFr W_X3_build_34 S r) (v1 : Int32) (S : aSt) {r : aSt} (hf : X3_build_34_b136 N rec89 v1 S = (some r)) : aFr W_X3_build_34 S r := by
  unfold X3_build_34_b136 at hf
  exact aFr.tr aFr.rf (hrec89 (v1 + (1 : Int32)) S hf)
theorem F_X3_build_34_b89 {N : Nat} {rec89 : Int32 → aSt → Option (aSt)} (hrec89 : ∀ (v1 : Int32) (S : aSt) {r : aSt}, rec89 v1 S = (some r) → aFr W_X3_build_34 S r) (v1 : Int32) (S : aSt) {r : aSt} (hf : X3_build_34_b89 N rec89 v1 S = (some r)) : aFr W_X3_build_34 S r := by
  unfold X3_build_34_b89 at hf
  rcases aIfE hf with ⟨-, hf⟩ | ⟨-, hf⟩
  · exact aFr.tr aFr.rf (F_X3_build_34_b142 S hf)
  · obtain ⟨w7, ew8, hf⟩ := aLetE hf
    obtain ⟨w9, ew10, hf⟩ := aBnE hf
    obtain ⟨w11, ew12, hf⟩ := aLetE hf
    have hw11 : aFr W_X3_build_34 S w11 := aFr.tr aFr.rf ((F_X6_set_36 v1 w9 S ew12).mono (by decide))
    obtain ⟨w13, ew14, hf⟩ := aLetE hf
    rcases aIfE hf with ⟨-, hf⟩ | ⟨-, hf⟩
    · exact aFr.tr hw11 (F_X3_build_34_b136 hrec89 v1 w11 hf)
    · obtain ⟨w16, ew17, hf⟩ := aBnE hf
      have hw16 : aFr W_X3_build_34 S w16 := aFr.tr hw11 ((F_X3_insert_34 N v1 w11 ew17).mono (by decide))
      exact aFr.tr hw16 (F_X3_build_34_b136 hrec89 v1 w16 hf)
theorem F_X3_build_34_l89 {N : Nat} : ∀ (n : Nat) (v1 : Int32) (S : aSt) {r : aSt}, X3_build_34_l89 N n v1 S = (some r) → aFr W_X3_build_34 S r
  | 0, _, _, _, h => nomatch (show (none : Option (aSt)) = some _ from h)
  | n + 1, v1, S, _, h => F_X3_build_34_b89 (fun v1 S _ h => F_X3_build_34_l89 n v1 S h) v1 S h
theorem F_X3_build_34_b87 {N : Nat} (S : aSt) {r : aSt} (hf : X3_build_34_b87 N S = (some r)) : aFr W_X3_build_34 S r := by
  unfold X3_build_34_b87 at hf
  exact aFr.tr aFr.rf (F_X3_build_34_l89 N (0 : Int32) S hf)
theorem F_X3_build_34_b81 {N : Nat} {rec15 : Int32 → aSt → Option (aSt)} (hrec15 : ∀ (v1 : Int32) (S : aSt) {r : aSt}, rec15 v1 S = (some r) → aFr W_X3_build_34 S r) (v1 : Int32) (S : aSt) {r : aSt} (hf : X3_build_34_b81 N rec15 v1 S = (some r)) : aFr W_X3_build_34 S r := by
  unfold X3_build_34_b81 at hf
  exact aFr.tr aFr.rf (hrec15 (v1 + (1 : Int32)) S hf)
theorem F_X3_build_34_b15 {N : Nat} {rec15 : Int32 → aSt → Option (aSt)} (hrec15 : ∀ (v1 : Int32) (S : aSt) {r : aSt}, rec15 v1 S = (some r) → aFr W_X3_build_34 S r) (v1 : Int32) (S : aSt) {r : aSt} (hf : X3_build_34_b15 N rec15 v1 S = (some r)) : aFr W_X3_build_34 S r := by
  unfold X3_build_34_b15 at hf
  rcases aIfE hf with ⟨-, hf⟩ | ⟨-, hf⟩
  · exact aFr.tr aFr.rf (F_X3_build_34_b87 S hf)
  · obtain ⟨w18, ew19, hf⟩ := aLetE hf
    obtain ⟨w20, ew21, hf⟩ := aLetE hf
    rcases aIfE hf with ⟨-, hf⟩ | ⟨-, hf⟩
    · exact aFr.tr aFr.rf (F_X3_build_34_b81 hrec15 v1 S hf)
    · obtain ⟨w23, ew24, hf⟩ := aLetE hf
      obtain ⟨w25, ew26, hf⟩ := aLetE hf
      obtain ⟨w27, ew28, hf⟩ := aLetE hf
      obtain ⟨w29, ew30, hf⟩ := aLetE hf
      have hw29 : aFr W_X3_build_34 S w29 := aFr.tr aFr.rf ((F_X6_set_35 w23 (w25 + w27) S ew30).mono (by decide))
      exact aFr.tr hw29 (F_X3_build_34_b81 hrec15 v1 w29 hf)
theorem F_X3_build_34_l15 {N : Nat} : ∀ (n : Nat) (v1 : Int32) (S : aSt) {r : aSt}, X3_build_34_l15 N n v1 S = (some r) → aFr W_X3_build_34 S r
  | 0, _, _, _, h => nomatch (show (none : Option (aSt)) = some _ from h)
  | n + 1, v1, S, _, h => F_X3_build_34_b15 (fun v1 S _ h => F_X3_build_34_l15 n v1 S h) v1 S h
theorem F_X3_build_34 (N : Nat) (S : aSt) {r : aSt} (hf : X3_build_34 N S = (some r)) : aFr W_X3_build_34 S r := by
  unfold X3_build_34 at hf
  obtain ⟨w1, ew2, hf⟩ := aBnE hf
  have hw1 : aFr W_X3_build_34 S w1 := aFr.tr (aFr.I aFr.rf 34 0 _ (by decide)) ((F_J7_fill_53178_35 N (0 : Int32) (aI S 34 0 (0 : Int32)) ew2).mono (by decide))
  exact aFr.tr hw1 (F_X3_build_34_l15 N (0 : Int32) w1 hf)
def W_X10_workOut_0 : aWr := ([(0, 10), (14, 0), (22, 0), (25, 0), (28, 2), (28, 3), (29, 2), (29, 3), (30, 0), (34, 0)], [(22, 1), (25, 1), (28, 0), (28, 1), (28, 4), (29, 0), (29, 1), (29, 4), (30, 1), (30, 2), (34, 1), (34, 2)], [15, 16, 17, 18, 19, 20, 21, 23, 24, 26, 27, 31, 32, 33, 35, 36, 37])
theorem F_X10_workOut_0 (N : Nat) (S : aSt) {r : aSt} (hf : X10_workOut_0 N S = (some r)) : aFr W_X10_workOut_0 S r := by
  unfold X10_workOut_0 at hf
  rcases aIfE hf with ⟨-, hf⟩ | ⟨-, hf⟩
  · have e9 := Option.some.inj hf; subst e9
    exact aFr.rf
  · obtain ⟨w2, ew3, hf⟩ := aBnE hf
    have hw2 : aFr W_X10_workOut_0 S w2 := aFr.tr aFr.rf ((F_X8_build_14 N  S ew3).mono (by decide))
    obtain ⟨w4, ew5, hf⟩ := aBnE hf
    have hw4 : aFr W_X10_workOut_0 S w4 := aFr.tr hw2 ((F_X7_build_22 N  w2 ew5).mono (by decide))
    obtain ⟨w6, ew7, hf⟩ := aBnE hf
    have hw6 : aFr W_X10_workOut_0 S w6 := aFr.tr hw4 ((F_X7_build_25 N  w4 ew7).mono (by decide))
    obtain ⟨w8, ew9, hf⟩ := aBnE hf
    obtain ⟨w10, ew11, hf⟩ := aBnE hf
    have hw10 : aFr W_X10_workOut_0 S w10 := aFr.tr hw6 ((F_X5_find_28 N (-w8) w6 ew11).mono (by decide))
    obtain ⟨w12, ew13, hf⟩ := aBnE hf
    have hw12 : aFr W_X10_workOut_0 S w12 := aFr.tr hw10 ((F_X5_find_29 N (0 : Int32) w10 ew13).mono (by decide))
    obtain ⟨w14, ew15, hf⟩ := aBnE hf
    have hw14 : aFr W_X10_workOut_0 S w14 := aFr.tr hw12 ((F_X3_build_30 N  w12 ew15).mono (by decide))
    obtain ⟨w16, ew17, hf⟩ := aBnE hf
    have hw16 : aFr W_X10_workOut_0 S w16 := aFr.tr hw14 ((F_X3_build_34 N  w14 ew17).mono (by decide))
    have e9 := Option.some.inj hf; subst e9
    exact (aFr.I hw16 0 10 _ (by decide))
def W_X10_chance_0 : aWr := ([(0, 10), (14, 0), (22, 0), (25, 0), (28, 2), (28, 3), (29, 2), (29, 3), (30, 0), (34, 0)], [(22, 1), (25, 1), (28, 0), (28, 1), (28, 4), (29, 0), (29, 1), (29, 4), (30, 1), (30, 2), (34, 1), (34, 2)], [15, 16, 17, 18, 19, 20, 21, 23, 24, 26, 27, 31, 32, 33, 35, 36, 37])
theorem F_X10_chance_0 (N : Nat) (a1 : Int32) (a2 : Int32) (S : aSt) {r : Int64 × aSt} (hf : X10_chance_0 N a1 a2 S = (some r)) : aFr W_X10_chance_0 S r.2 := by
  unfold X10_chance_0 at hf
  obtain ⟨w1, ew2, hf⟩ := aBnE hf
  have hw1 : aFr W_X10_chance_0 S w1 := aFr.tr aFr.rf ((F_X10_workOut_0 N  S ew2).mono (by decide))
  rcases aIfE hf with ⟨-, hf⟩ | ⟨-, hf⟩
  · have e9 := Option.some.inj hf; subst e9
    exact hw1
  · rcases aIfE hf with ⟨-, hf⟩ | ⟨-, hf⟩
    · obtain ⟨w5, ew6, hf⟩ := aLetE hf
      rcases aIfE hf with ⟨-, hf⟩ | ⟨-, hf⟩
      · have e9 := Option.some.inj hf; subst e9
        exact hw1
      · obtain ⟨w8, ew9, hf⟩ := aLetE hf
        obtain ⟨w10, ew11, hf⟩ := aLetE hf
        obtain ⟨w12, ew13, hf⟩ := aBnE hf
        have e9 := Option.some.inj hf; subst e9
        exact hw1
    · have e9 := Option.some.inj hf; subst e9
      exact hw1
def W_X10_erase_0 : aWr := ([(1, 0)], [], [])
theorem F_X10_erase_0 (S : aSt) {r : Int32 × aSt} (hf : X10_erase_0 S = r) : aFr W_X10_erase_0 S r.2 := by
  unfold X10_erase_0 at hf
  subst hf
  exact (aFr.I aFr.rf 1 0 _ (by decide))
def W_X10_fault_0 : aWr := ([(1, 1), (1, 8)], [], [3, 4, 5, 6, 7])
theorem F_X10_fault_0 (N : Nat) (S : aSt) {r : Int32 × aSt} (hf : X10_fault_0 N S = (some r)) : aFr W_X10_fault_0 S r.2 := by
  unfold X10_fault_0 at hf
  obtain ⟨w1, ew2, hf⟩ := aBnE hf
  have hw1 : aFr W_X10_fault_0 S w1.2 := aFr.tr aFr.rf ((F_X9_read_1 N  S ew2).mono (by decide))
  have e9 := Option.some.inj hf; subst e9
  exact hw1
def W_X10_hide_0 : aWr := ([(0, 10), (14, 0), (22, 0), (25, 0), (28, 2), (28, 3), (29, 2), (29, 3), (30, 0), (34, 0)], [(22, 1), (25, 1), (28, 0), (28, 1), (28, 4), (29, 0), (29, 1), (29, 4), (30, 1), (30, 2), (34, 1), (34, 2)], [15, 16, 17, 18, 19, 20, 21, 23, 24, 26, 27, 31, 32, 33, 35, 36, 37])
theorem F_X10_hide_0 (N : Nat) (a1 : Int32) (S : aSt) {r : Int64 × aSt} (hf : X10_hide_0 N a1 S = (some r)) : aFr W_X10_hide_0 S r.2 := by
  unfold X10_hide_0 at hf
  rcases aIfE hf with ⟨-, hf⟩ | ⟨-, hf⟩
  · have e9 := Option.some.inj hf; subst e9
    exact aFr.rf
  · rcases aIfE hf with ⟨-, hf⟩ | ⟨-, hf⟩
    · obtain ⟨w3, ew4, hf⟩ := aBnE hf
      have hw3 : aFr W_X10_hide_0 S w3 := aFr.tr aFr.rf ((F_X10_workOut_0 N  S ew4).mono (by decide))
      rcases aIfE hf with ⟨-, hf⟩ | ⟨-, hf⟩
      · have e9 := Option.some.inj hf; subst e9
        exact hw3
      · have e9 := Option.some.inj hf; subst e9
        exact hw3
    · have e9 := Option.some.inj hf; subst e9
      exact aFr.rf
def W_X10_learn_0 : aWr := ([(8, 4)], [], [10])
theorem F_X10_learn_0 (a1 : Int32) (a2 : Int32) (S : aSt) {r : Int32 × aSt} (hf : X10_learn_0 a1 a2 S = r) : aFr W_X10_learn_0 S r.2 := by
  unfold X10_learn_0 at hf
  obtain ⟨w1, ew2, hf⟩ := aLetE hf
  rcases aIfE hf with ⟨-, hf⟩ | ⟨-, hf⟩
  · subst hf
    exact aFr.rf
  · obtain ⟨w4, ew5, hf⟩ := aLetE hf
    rcases aIfE hf with ⟨-, hf⟩ | ⟨-, hf⟩
    · subst hf
      exact aFr.rf
    · obtain ⟨w7, ew8, hf⟩ := aLetE hf
      obtain ⟨w9, ew10, hf⟩ := aLetE hf
      obtain ⟨w11, ew12, hf⟩ := aLetE hf
      have hw11 : aFr W_X10_learn_0 S w11 := aFr.tr aFr.rf ((F_X2_setOdds_8 a1 a2 w9 S ew12).mono (by decide))
      obtain ⟨w13, ew14, hf⟩ := aLetE hf
      subst hf
      exact hw11
def W_X10_look_0 : aWr := ([(0, 10), (14, 0), (22, 0), (25, 0), (28, 2), (28, 3), (29, 2), (29, 3), (30, 0), (34, 0)], [(22, 1), (25, 1), (28, 0), (28, 1), (28, 4), (29, 0), (29, 1), (29, 4), (30, 1), (30, 2), (34, 1), (34, 2)], [15, 16, 17, 18, 19, 20, 21, 23, 24, 26, 27, 31, 32, 33, 35, 36, 37])
theorem F_X10_look_0_b27 {N : Nat} (v1 : Int32) (S : aSt) {r : Int32 × aSt} (hf : X10_look_0_b27 N v1 S = (some r)) : aFr W_X10_look_0 S r.2 := by
  unfold X10_look_0_b27 at hf
  rcases aIfE hf with ⟨-, hf⟩ | ⟨-, hf⟩
  · have e9 := Option.some.inj hf; subst e9
    exact aFr.rf
  · rcases aIfE hf with ⟨-, hf⟩ | ⟨-, hf⟩
    · have e9 := Option.some.inj hf; subst e9
      exact aFr.rf
    · obtain ⟨w7, ew8, hf⟩ := aLetE hf
      have e9 := Option.some.inj hf; subst e9
      exact aFr.rf
theorem F_X10_look_0_b27b {N : Nat} (v1 : Int32) (S : aSt) {r : Int32 × aSt} (hf : X10_look_0_b27b N v1 S = (some r)) : aFr W_X10_look_0 S r.2 := by
  unfold X10_look_0_b27b at hf
  rcases aIfE hf with ⟨-, hf⟩ | ⟨-, hf⟩
  · have e9 := Option.some.inj hf; subst e9
    exact aFr.rf
  · rcases aIfE hf with ⟨-, hf⟩ | ⟨-, hf⟩
    · have e9 := Option.some.inj hf; subst e9
      exact aFr.rf
    · obtain ⟨w11, ew12, hf⟩ := aLetE hf
      have e9 := Option.some.inj hf; subst e9
      exact aFr.rf
theorem F_X10_look_0 (N : Nat) (a1 : Int32) (a2 : Int32) (S : aSt) {r : Int32 × aSt} (hf : X10_look_0 N a1 a2 S = (some r)) : aFr W_X10_look_0 S r.2 := by
  unfold X10_look_0 at hf
  rcases aIfE hf with ⟨-, hf⟩ | ⟨-, hf⟩
  · obtain ⟨w2, ew3, hf⟩ := aBnE hf
    have hw2 : aFr W_X10_look_0 S w2 := aFr.tr aFr.rf ((F_X10_workOut_0 N  S ew3).mono (by decide))
    rcases aIfE hf with ⟨-, hf⟩ | ⟨-, hf⟩
    · exact aFr.tr hw2 (F_X10_look_0_b27 a1 w2 hf)
    · exact aFr.tr hw2 (F_X10_look_0_b27b a1 w2 hf)
  · have e9 := Option.some.inj hf; subst e9
    exact aFr.rf
def W_X6_set_40 : aWr := ([], [], [40])
theorem F_X6_set_40 (a1 : Int32) (a2 : Int32) (S : aSt) {r : aSt} (hf : X6_set_40 a1 a2 S = r) : aFr W_X6_set_40 S r := by
  unfold X6_set_40 at hf
  rcases aIfE hf with ⟨-, hf⟩ | ⟨-, hf⟩
  · subst hf
    exact aFr.rf
  · rcases aIfE hf with ⟨-, hf⟩ | ⟨-, hf⟩
    · subst hf
      exact aFr.rf
    · subst hf
      exact (aFr.A aFr.rf 40 _ (by decide))
def W_X6_set_41 : aWr := ([], [], [41])
theorem F_X6_set_41 (a1 : Int32) (a2 : Int32) (S : aSt) {r : aSt} (hf : X6_set_41 a1 a2 S = r) : aFr W_X6_set_41 S r := by
  unfold X6_set_41 at hf
  rcases aIfE hf with ⟨-, hf⟩ | ⟨-, hf⟩
  · subst hf
    exact aFr.rf
  · rcases aIfE hf with ⟨-, hf⟩ | ⟨-, hf⟩
    · subst hf
      exact aFr.rf
    · subst hf
      exact (aFr.A aFr.rf 41 _ (by decide))
def W_X4_findLeastCosts_38 : aWr := ([], [], [40, 41])
theorem F_X4_findLeastCosts_38_b139 {N : Nat} {rec2 : Int32 → Int32 → aSt → Option (aSt)} (hrec2 : ∀ (v1 : Int32) (v2 : Int32) (S : aSt) {r : aSt}, rec2 v1 v2 S = (some r) → aFr W_X4_findLeastCosts_38 S r) (v1 : Int32) (v2 : Int32) (S : aSt) {r : aSt} (hf : X4_findLeastCosts_38_b139 N rec2 v1 v2 S = (some r)) : aFr W_X4_findLeastCosts_38 S r := by
  unfold X4_findLeastCosts_38_b139 at hf
  exact aFr.tr aFr.rf (hrec2 v1 (v2 + ((-1) : Int32)) S hf)
theorem F_X4_findLeastCosts_38_b118 {N : Nat} {rec2 : Int32 → Int32 → aSt → Option (aSt)} {rec11 : Int32 → Int32 → Int32 → aSt → Option (aSt)} (hrec2 : ∀ (v1 : Int32) (v2 : Int32) (S : aSt) {r : aSt}, rec2 v1 v2 S = (some r) → aFr W_X4_findLeastCosts_38 S r) (hrec11 : ∀ (v1 : Int32) (v2 : Int32) (v3 : Int32) (S : aSt) {r : aSt}, rec11 v1 v2 v3 S = (some r) → aFr W_X4_findLeastCosts_38 S r) (v1 : Int32) (v2 : Int32) (v3 : Int32) (v4 : Int32) (S : aSt) {r : aSt} (hf : X4_findLeastCosts_38_b118 N rec2 rec11 v1 v2 v3 v4 S = (some r)) : aFr W_X4_findLeastCosts_38 S r := by
  unfold X4_findLeastCosts_38_b118 at hf
  obtain ⟨w4, ew5, hf⟩ := aLetE hf
  have hw4 : aFr W_X4_findLeastCosts_38 S w4 := aFr.tr aFr.rf ((F_X6_set_40 ((v2 * (13 : Int32)) + v3) v4 S ew5).mono (by decide))
  exact aFr.tr hw4 (hrec11 v1 v2 (v3 + ((-1) : Int32)) w4 hf)
theorem F_X4_findLeastCosts_38_b11 {N : Nat} {rec2 : Int32 → Int32 → aSt → Option (aSt)} {rec11 : Int32 → Int32 → Int32 → aSt → Option (aSt)} (hrec2 : ∀ (v1 : Int32) (v2 : Int32) (S : aSt) {r : aSt}, rec2 v1 v2 S = (some r) → aFr W_X4_findLeastCosts_38 S r) (hrec11 : ∀ (v1 : Int32) (v2 : Int32) (v3 : Int32) (S : aSt) {r : aSt}, rec11 v1 v2 v3 S = (some r) → aFr W_X4_findLeastCosts_38 S r) (v1 : Int32) (v2 : Int32) (v3 : Int32) (S : aSt) {r : aSt} (hf : X4_findLeastCosts_38_b11 N rec2 rec11 v1 v2 v3 S = (some r)) : aFr W_X4_findLeastCosts_38 S r := by
  unfold X4_findLeastCosts_38_b11 at hf
  rcases aIfE hf with ⟨-, hf⟩ | ⟨-, hf⟩
  · exact aFr.tr aFr.rf (F_X4_findLeastCosts_38_b139 hrec2 v1 v2 S hf)
  · rcases aIfE hf with ⟨-, hf⟩ | ⟨-, hf⟩
    · exact aFr.tr aFr.rf (F_X4_findLeastCosts_38_b118 hrec2 hrec11 v1 v2 v3 ((1 : Int32) * (((v1 - v2) + (S.1 38 0)) - v3)) S hf)
    · rcases aIfE hf with ⟨-, hf⟩ | ⟨-, hf⟩
      · exact aFr.tr aFr.rf (F_X4_findLeastCosts_38_b118 hrec2 hrec11 v1 v2 v3 ((1 : Int32) * (((v1 - v2) + (S.1 38 0)) - v3)) S hf)
      · obtain ⟨w7, ew8, hf⟩ := aLetE hf
        obtain ⟨w9, ew10, hf⟩ := aLetE hf
        obtain ⟨w11, ew12, hf⟩ := aBnE hf
        obtain ⟨w13, ew14, hf⟩ := aLetE hf
        have hw13 : aFr W_X4_findLeastCosts_38 S w13 := aFr.tr aFr.rf ((F_X6_set_41 ((v2 * (13 : Int32)) + v3) w11 S ew14).mono (by decide))
        obtain ⟨w15, ew16, hf⟩ := aLetE hf
        obtain ⟨w17, ew18, hf⟩ := aLetE hf
        obtain ⟨w19, ew20, hf⟩ := aLetE hf
        obtain ⟨w21, ew22, hf⟩ := aLetE hf
        obtain ⟨w23, ew24, hf⟩ := aLetE hf
        exact aFr.tr hw13 (F_X4_findLeastCosts_38_b118 hrec2 hrec11 v1 v2 v3 w23 w13 hf)
theorem F_X4_findLeastCosts_38_l11 {N : Nat} {rec2 : Int32 → Int32 → aSt → Option (aSt)} (hrec2 : ∀ (v1 : Int32) (v2 : Int32) (S : aSt) {r : aSt}, rec2 v1 v2 S = (some r) → aFr W_X4_findLeastCosts_38 S r) : ∀ (n : Nat) (v1 : Int32) (v2 : Int32) (v3 : Int32) (S : aSt) {r : aSt}, X4_findLeastCosts_38_l11 N rec2 n v1 v2 v3 S = (some r) → aFr W_X4_findLeastCosts_38 S r
  | 0, _, _, _, _, _, h => nomatch (show (none : Option (aSt)) = some _ from h)
  | n + 1, v1, v2, v3, S, _, h => F_X4_findLeastCosts_38_b11 hrec2 (fun v1 v2 v3 S _ h => F_X4_findLeastCosts_38_l11 hrec2 n v1 v2 v3 S h) v1 v2 v3 S h
theorem F_X4_findLeastCosts_38_b2 {N : Nat} {rec2 : Int32 → Int32 → aSt → Option (aSt)} (hrec2 : ∀ (v1 : Int32) (v2 : Int32) (S : aSt) {r : aSt}, rec2 v1 v2 S = (some r) → aFr W_X4_findLeastCosts_38 S r) (v1 : Int32) (v2 : Int32) (S : aSt) {r : aSt} (hf : X4_findLeastCosts_38_b2 N rec2 v1 v2 S = (some r)) : aFr W_X4_findLeastCosts_38 S r := by
  unfold X4_findLeastCosts_38_b2 at hf
  rcases aIfE hf with ⟨-, hf⟩ | ⟨-, hf⟩
  · have e9 := Option.some.inj hf; subst e9
    exact aFr.rf
  · exact aFr.tr aFr.rf (F_X4_findLeastCosts_38_l11 hrec2 N v1 v2 (S.1 38 0) S hf)
theorem F_X4_findLeastCosts_38_l2 {N : Nat} : ∀ (n : Nat) (v1 : Int32) (v2 : Int32) (S : aSt) {r : aSt}, X4_findLeastCosts_38_l2 N n v1 v2 S = (some r) → aFr W_X4_findLeastCosts_38 S r
  | 0, _, _, _, _, h => nomatch (show (none : Option (aSt)) = some _ from h)
  | n + 1, v1, v2, S, _, h => F_X4_findLeastCosts_38_b2 (fun v1 v2 S _ h => F_X4_findLeastCosts_38_l2 n v1 v2 S h) v1 v2 S h
theorem F_X4_findLeastCosts_38 (N : Nat) (a1 : Int32) (S : aSt) {r : aSt} (hf : X4_findLeastCosts_38 N a1 S = (some r)) : aFr W_X4_findLeastCosts_38 S r := by
  unfold X4_findLeastCosts_38 at hf
  exact aFr.tr aFr.rf (F_X4_findLeastCosts_38_l2 N a1 a1 S hf)
def W_X10_match_0 : aWr := ([], [], [40, 41])
theorem F_X10_match_0 (N : Nat) (a1 : Int32) (a2 : Int32) (S : aSt) {r : Int32 × aSt} (hf : X10_match_0 N a1 a2 S = (some r)) : aFr W_X10_match_0 S r.2 := by
  unfold X10_match_0 at hf
  rcases aIfE hf with ⟨-, hf⟩ | ⟨-, hf⟩
  · have e9 := Option.some.inj hf; subst e9
    exact aFr.rf
  · rcases aIfE hf with ⟨-, hf⟩ | ⟨-, hf⟩
    · have e9 := Option.some.inj hf; subst e9
      exact aFr.rf
    · rcases aIfE hf with ⟨-, hf⟩ | ⟨-, hf⟩
      · have e9 := Option.some.inj hf; subst e9
        exact aFr.rf
      · rcases aIfE hf with ⟨-, hf⟩ | ⟨-, hf⟩
        · have e9 := Option.some.inj hf; subst e9
          exact aFr.rf
        · rcases aIfE hf with ⟨-, hf⟩ | ⟨-, hf⟩
          · obtain ⟨w6, ew7, hf⟩ := aBnE hf
            have hw6 : aFr W_X10_match_0 S w6 := aFr.tr aFr.rf ((F_X4_findLeastCosts_38 N a1 S ew7).mono (by decide))
            rcases aIfE hf with ⟨-, hf⟩ | ⟨-, hf⟩
            · obtain ⟨w11, ew12, hf⟩ := aLetE hf
              have e9 := Option.some.inj hf; subst e9
              exact hw6
            · obtain ⟨w9, ew10, hf⟩ := aBnE hf
              have e9 := Option.some.inj hf; subst e9
              exact hw6
          · have e9 := Option.some.inj hf; subst e9
            exact aFr.rf
def W_X10_mean_0 : aWr := ([(0, 10), (14, 0), (22, 0), (25, 0), (28, 2), (28, 3), (29, 2), (29, 3), (30, 0), (34, 0)], [(22, 1), (25, 1), (28, 0), (28, 1), (28, 4), (29, 0), (29, 1), (29, 4), (30, 1), (30, 2), (34, 1), (34, 2)], [15, 16, 17, 18, 19, 20, 21, 23, 24, 26, 27, 31, 32, 33, 35, 36, 37])
theorem F_X10_mean_0_b29 {N : Nat} (v2 : Int32) (S : aSt) {r : Int32 × aSt} (hf : X10_mean_0_b29 N v2 S = (some r)) : aFr W_X10_mean_0 S r.2 := by
  unfold X10_mean_0_b29 at hf
  rcases aIfE hf with ⟨-, hf⟩ | ⟨-, hf⟩
  · have e9 := Option.some.inj hf; subst e9
    exact aFr.rf
  · obtain ⟨w8, ew9, hf⟩ := aBnE hf
    have e9 := Option.some.inj hf; subst e9
    exact aFr.rf
theorem F_X10_mean_0_b29b {N : Nat} (v2 : Int32) (S : aSt) {r : Int32 × aSt} (hf : X10_mean_0_b29b N v2 S = (some r)) : aFr W_X10_mean_0 S r.2 := by
  unfold X10_mean_0_b29b at hf
  rcases aIfE hf with ⟨-, hf⟩ | ⟨-, hf⟩
  · have e9 := Option.some.inj hf; subst e9
    exact aFr.rf
  · obtain ⟨w11, ew12, hf⟩ := aBnE hf
    have e9 := Option.some.inj hf; subst e9
    exact aFr.rf
theorem F_X10_mean_0 (N : Nat) (a1 : Int32) (a2 : Int32) (S : aSt) {r : Int32 × aSt} (hf : X10_mean_0 N a1 a2 S = (some r)) : aFr W_X10_mean_0 S r.2 := by
  unfold X10_mean_0 at hf
  obtain ⟨w1, ew2, hf⟩ := aLetE hf
  rcases aIfE hf with ⟨-, hf⟩ | ⟨-, hf⟩
  · have e9 := Option.some.inj hf; subst e9
    exact aFr.rf
  · obtain ⟨w4, ew5, hf⟩ := aBnE hf
    have hw4 : aFr W_X10_mean_0 S w4 := aFr.tr aFr.rf ((F_X10_workOut_0 N  S ew5).mono (by decide))
    rcases aIfE hf with ⟨-, hf⟩ | ⟨-, hf⟩
    · exact aFr.tr hw4 (F_X10_mean_0_b29 a2 w4 hf)
    · exact aFr.tr hw4 (F_X10_mean_0_b29b a2 w4 hf)
def W_X2_change_8 : aWr := ([(8, 4)], [], [9])
theorem F_X2_change_8 (a1 : Int32) (a2 : Int32) (a3 : Int32) (S : aSt) {r : aSt} (hf : X2_change_8 a1 a2 a3 S = r) : aFr W_X2_change_8 S r := by
  unfold X2_change_8 at hf
  obtain ⟨w1, ew2, hf⟩ := aLetE hf
  have hw1 : aFr W_X2_change_8 S w1 := aFr.tr aFr.rf ((F_X2_setPart_8 a1 (0 : Int32) a2 S ew2).mono (by decide))
  obtain ⟨w3, ew4, hf⟩ := aLetE hf
  have hw3 : aFr W_X2_change_8 S w3 := aFr.tr hw1 ((F_X2_setPart_8 a1 (1 : Int32) a3 w1 ew4).mono (by decide))
  subst hf
  exact (aFr.I hw3 8 4 _ (by decide))
def W_X10_mend_0 : aWr := ([(8, 4)], [], [9])
theorem F_X10_mend_0 (N : Nat) (a1 : Int32) (a2 : Int32) (a3 : Int32) (S : aSt) {r : Int32 × aSt} (hf : X10_mend_0 N a1 a2 a3 S = (some r)) : aFr W_X10_mend_0 S r.2 := by
  unfold X10_mend_0 at hf
  obtain ⟨w1, ew2, hf⟩ := aLetE hf
  rcases aIfE hf with ⟨-, hf⟩ | ⟨-, hf⟩
  · have e9 := Option.some.inj hf; subst e9
    exact aFr.rf
  · obtain ⟨w4, ew5, hf⟩ := aLetE hf
    rcases aIfE hf with ⟨-, hf⟩ | ⟨-, hf⟩
    · have e9 := Option.some.inj hf; subst e9
      exact aFr.rf
    · obtain ⟨w7, ew8, hf⟩ := aLetE hf
      rcases aIfE hf with ⟨-, hf⟩ | ⟨-, hf⟩
      · have e9 := Option.some.inj hf; subst e9
        exact aFr.rf
      · obtain ⟨w10, ew11, hf⟩ := aLetE hf
        have hw10 : aFr W_X10_mend_0 S w10 := aFr.tr aFr.rf ((F_X2_change_8 a1 a2 a3 S ew11).mono (by decide))
        obtain ⟨w12, ew13, hf⟩ := aBnE hf
        have e9 := Option.some.inj hf; subst e9
        exact hw10
def W_X10_ofKind_0 : aWr := ([(0, 10), (14, 0), (22, 0), (25, 0), (28, 2), (28, 3), (29, 2), (29, 3), (30, 0), (34, 0)], [(22, 1), (25, 1), (28, 0), (28, 1), (28, 4), (29, 0), (29, 1), (29, 4), (30, 1), (30, 2), (34, 1), (34, 2)], [15, 16, 17, 18, 19, 20, 21, 23, 24, 26, 27, 31, 32, 33, 35, 36, 37])
theorem F_X10_ofKind_0 (N : Nat) (a1 : Int32) (S : aSt) {r : Int32 × aSt} (hf : X10_ofKind_0 N a1 S = (some r)) : aFr W_X10_ofKind_0 S r.2 := by
  unfold X10_ofKind_0 at hf
  rcases aIfE hf with ⟨-, hf⟩ | ⟨-, hf⟩
  · have e9 := Option.some.inj hf; subst e9
    exact aFr.rf
  · rcases aIfE hf with ⟨-, hf⟩ | ⟨-, hf⟩
    · obtain ⟨w3, ew4, hf⟩ := aBnE hf
      have hw3 : aFr W_X10_ofKind_0 S w3 := aFr.tr aFr.rf ((F_X10_workOut_0 N  S ew4).mono (by decide))
      obtain ⟨w5, ew6, hf⟩ := aBnE hf
      have e9 := Option.some.inj hf; subst e9
      exact hw3
    · have e9 := Option.some.inj hf; subst e9
      exact aFr.rf
def W_X10_one_0 : aWr := ([(0, 10), (14, 0), (22, 0), (25, 0), (28, 2), (28, 3), (29, 2), (29, 3), (30, 0), (34, 0)], [(22, 1), (25, 1), (28, 0), (28, 1), (28, 4), (29, 0), (29, 1), (29, 4), (30, 1), (30, 2), (34, 1), (34, 2)], [15, 16, 17, 18, 19, 20, 21, 23, 24, 26, 27, 31, 32, 33, 35, 36, 37])
theorem F_X10_one_0_b36 {N : Nat} (v1 : Int32) (v2 : Int32) (S : aSt) {r : Int32 × aSt} (hf : X10_one_0_b36 N v1 v2 S = (some r)) : aFr W_X10_one_0 S r.2 := by
  unfold X10_one_0_b36 at hf
  rcases aIfE hf with ⟨-, hf⟩ | ⟨-, hf⟩
  · have e9 := Option.some.inj hf; subst e9
    exact aFr.rf
  · rcases aIfE hf with ⟨-, hf⟩ | ⟨-, hf⟩
    · obtain ⟨w9, ew10, hf⟩ := aLetE hf
      obtain ⟨w11, ew12, hf⟩ := aBnE hf
      have e9 := Option.some.inj hf; subst e9
      exact aFr.rf
    · have e9 := Option.some.inj hf; subst e9
      exact aFr.rf
theorem F_X10_one_0_b36b {N : Nat} (v1 : Int32) (v2 : Int32) (S : aSt) {r : Int32 × aSt} (hf : X10_one_0_b36b N v1 v2 S = (some r)) : aFr W_X10_one_0 S r.2 := by
  unfold X10_one_0_b36b at hf
  rcases aIfE hf with ⟨-, hf⟩ | ⟨-, hf⟩
  · have e9 := Option.some.inj hf; subst e9
    exact aFr.rf
  · rcases aIfE hf with ⟨-, hf⟩ | ⟨-, hf⟩
    · obtain ⟨w15, ew16, hf⟩ := aLetE hf
      obtain ⟨w17, ew18, hf⟩ := aBnE hf
      have e9 := Option.some.inj hf; subst e9
      exact aFr.rf
    · have e9 := Option.some.inj hf; subst e9
      exact aFr.rf
theorem F_X10_one_0 (N : Nat) (a1 : Int32) (a2 : Int32) (a3 : Int32) (S : aSt) {r : Int32 × aSt} (hf : X10_one_0 N a1 a2 a3 S = (some r)) : aFr W_X10_one_0 S r.2 := by
  unfold X10_one_0 at hf
  rcases aIfE hf with ⟨-, hf⟩ | ⟨-, hf⟩
  · have e9 := Option.some.inj hf; subst e9
    exact aFr.rf
  · rcases aIfE hf with ⟨-, hf⟩ | ⟨-, hf⟩
    · have e9 := Option.some.inj hf; subst e9
      exact aFr.rf
    · rcases aIfE hf with ⟨-, hf⟩ | ⟨-, hf⟩
      · obtain ⟨w4, ew5, hf⟩ := aBnE hf
        have hw4 : aFr W_X10_one_0 S w4 := aFr.tr aFr.rf ((F_X10_workOut_0 N  S ew5).mono (by decide))
        rcases aIfE hf with ⟨-, hf⟩ | ⟨-, hf⟩
        · exact aFr.tr hw4 (F_X10_one_0_b36 a1 a2 w4 hf)
        · exact aFr.tr hw4 (F_X10_one_0_b36b a1 a2 w4 hf)
      · have e9 := Option.some.inj hf; subst e9
        exact aFr.rf
def W_X6_set_39 : aWr := ([], [], [39])
theorem F_X6_set_39 (a1 : Int32) (a2 : Int32) (S : aSt) {r : aSt} (hf : X6_set_39 a1 a2 S = r) : aFr W_X6_set_39 S r := by
  unfold X6_set_39 at hf
  rcases aIfE hf with ⟨-, hf⟩ | ⟨-, hf⟩
  · subst hf
    exact aFr.rf
  · rcases aIfE hf with ⟨-, hf⟩ | ⟨-, hf⟩
    · subst hf
      exact aFr.rf
    · subst hf
      exact (aFr.A aFr.rf 39 _ (by decide))
def W_X4_add_38 : aWr := ([(38, 0)], [], [39])
theorem F_X4_add_38 (a1 : Int32) (S : aSt) {r : aSt} (hf : X4_add_38 a1 S = r) : aFr W_X4_add_38 S r := by
  unfold X4_add_38 at hf
  obtain ⟨w1, ew2, hf⟩ := aLetE hf
  have hw1 : aFr W_X4_add_38 S w1 := aFr.tr aFr.rf ((F_X6_set_39 (S.1 38 0) a1 S ew2).mono (by decide))
  subst hf
  exact (aFr.I hw1 38 0 _ (by decide))
def W_X10_other_0 : aWr := ([(38, 0)], [], [39])
theorem F_X10_other_0 (a1 : Int32) (S : aSt) {r : Int32 × aSt} (hf : X10_other_0 a1 S = r) : aFr W_X10_other_0 S r.2 := by
  unfold X10_other_0 at hf
  obtain ⟨w1, ew2, hf⟩ := aLetE hf
  rcases aIfE hf with ⟨-, hf⟩ | ⟨-, hf⟩
  · subst hf
    exact aFr.rf
  · rcases aIfE hf with ⟨-, hf⟩ | ⟨-, hf⟩
    · obtain ⟨w5, ew6, hf⟩ := aLetE hf
      have hw5 : aFr W_X10_other_0 S w5 := aFr.tr aFr.rf ((F_X4_add_38 a1 S ew6).mono (by decide))
      subst hf
      exact hw5
    · subst hf
      exact aFr.rf
def W_X10_pair_0 : aWr := ([(0, 10), (14, 0), (22, 0), (25, 0), (28, 2), (28, 3), (29, 2), (29, 3), (30, 0), (34, 0)], [(22, 1), (25, 1), (28, 0), (28, 1), (28, 4), (29, 0), (29, 1), (29, 4), (30, 1), (30, 2), (34, 1), (34, 2)], [15, 16, 17, 18, 19, 20, 21, 23, 24, 26, 27, 31, 32, 33, 35, 36, 37])
theorem F_X10_pair_0_b31 {N : Nat} (v2 : Int32) (S : aSt) {r : Int32 × aSt} (hf : X10_pair_0_b31 N v2 S = (some r)) : aFr W_X10_pair_0 S r.2 := by
  unfold X10_pair_0_b31 at hf
  rcases aIfE hf with ⟨-, hf⟩ | ⟨-, hf⟩
  · have e9 := Option.some.inj hf; subst e9
    exact aFr.rf
  · rcases aIfE hf with ⟨-, hf⟩ | ⟨-, hf⟩
    · obtain ⟨w8, ew9, hf⟩ := aBnE hf
      have e9 := Option.some.inj hf; subst e9
      exact aFr.rf
    · obtain ⟨w10, ew11, hf⟩ := aBnE hf
      have e9 := Option.some.inj hf; subst e9
      exact aFr.rf
theorem F_X10_pair_0_b31b {N : Nat} (v2 : Int32) (S : aSt) {r : Int32 × aSt} (hf : X10_pair_0_b31b N v2 S = (some r)) : aFr W_X10_pair_0 S r.2 := by
  unfold X10_pair_0_b31b at hf
  rcases aIfE hf with ⟨-, hf⟩ | ⟨-, hf⟩
  · have e9 := Option.some.inj hf; subst e9
    exact aFr.rf
  · rcases aIfE hf with ⟨-, hf⟩ | ⟨-, hf⟩
    · obtain ⟨w14, ew15, hf⟩ := aBnE hf
      have e9 := Option.some.inj hf; subst e9
      exact aFr.rf
    · obtain ⟨w16, ew17, hf⟩ := aBnE hf
      have e9 := Option.some.inj hf; subst e9
      exact aFr.rf
theorem F_X10_pair_0 (N : Nat) (a1 : Int32) (a2 : Int32) (S : aSt) {r : Int32 × aSt} (hf : X10_pair_0 N a1 a2 S = (some r)) : aFr W_X10_pair_0 S r.2 := by
  unfold X10_pair_0 at hf
  rcases aIfE hf with ⟨-, hf⟩ | ⟨-, hf⟩
  · have e9 := Option.some.inj hf; subst e9
    exact aFr.rf
  · rcases aIfE hf with ⟨-, hf⟩ | ⟨-, hf⟩
    · obtain ⟨w3, ew4, hf⟩ := aBnE hf
      have hw3 : aFr W_X10_pair_0 S w3 := aFr.tr aFr.rf ((F_X10_workOut_0 N  S ew4).mono (by decide))
      rcases aIfE hf with ⟨-, hf⟩ | ⟨-, hf⟩
      · exact aFr.tr hw3 (F_X10_pair_0_b31 a2 w3 hf)
      · exact aFr.tr hw3 (F_X10_pair_0_b31b a2 w3 hf)
    · have e9 := Option.some.inj hf; subst e9
      exact aFr.rf
def W_X2_remove_8 : aWr := ([(8, 0), (8, 4)], [], [9])
theorem F_X2_remove_8_b45 {N : Nat} (S : aSt) {r : aSt} (hf : X2_remove_8_b45 N S = (some r)) : aFr W_X2_remove_8 S r := by
  unfold X2_remove_8_b45 at hf
  have e9 := Option.some.inj hf; subst e9
  exact (aFr.I (aFr.I aFr.rf 8 0 _ (by decide)) 8 4 _ (by decide))
theorem F_X2_remove_8_b39 {N : Nat} {rec4 : Int32 → aSt → Option (aSt)} (hrec4 : ∀ (v2 : Int32) (S : aSt) {r : aSt}, rec4 v2 S = (some r) → aFr W_X2_remove_8 S r) (v2 : Int32) (S : aSt) {r : aSt} (hf : X2_remove_8_b39 N rec4 v2 S = (some r)) : aFr W_X2_remove_8 S r := by
  unfold X2_remove_8_b39 at hf
  exact aFr.tr aFr.rf (hrec4 (v2 + (1 : Int32)) S hf)
theorem F_X2_remove_8_b14 {N : Nat} {rec4 : Int32 → aSt → Option (aSt)} {rec14 : Int32 → Int32 → aSt → Option (aSt)} (hrec4 : ∀ (v2 : Int32) (S : aSt) {r : aSt}, rec4 v2 S = (some r) → aFr W_X2_remove_8 S r) (hrec14 : ∀ (v2 : Int32) (v3 : Int32) (S : aSt) {r : aSt}, rec14 v2 v3 S = (some r) → aFr W_X2_remove_8 S r) (v2 : Int32) (v3 : Int32) (S : aSt) {r : aSt} (hf : X2_remove_8_b14 N rec4 rec14 v2 v3 S = (some r)) : aFr W_X2_remove_8 S r := by
  unfold X2_remove_8_b14 at hf
  rcases aIfE hf with ⟨-, hf⟩ | ⟨-, hf⟩
  · exact aFr.tr aFr.rf (F_X2_remove_8_b39 hrec4 v2 S hf)
  · obtain ⟨w3, ew4, hf⟩ := aLetE hf
    obtain ⟨w5, ew6, hf⟩ := aLetE hf
    have hw5 : aFr W_X2_remove_8 S w5 := aFr.tr aFr.rf ((F_X2_setPart_8 (v2 - (1 : Int32)) v3 w3 S ew6).mono (by decide))
    exact aFr.tr hw5 (hrec14 v2 (v3 + (1 : Int32)) w5 hf)
theorem F_X2_remove_8_l14 {N : Nat} {rec4 : Int32 → aSt → Option (aSt)} (hrec4 : ∀ (v2 : Int32) (S : aSt) {r : aSt}, rec4 v2 S = (some r) → aFr W_X2_remove_8 S r) : ∀ (n : Nat) (v2 : Int32) (v3 : Int32) (S : aSt) {r : aSt}, X2_remove_8_l14 N rec4 n v2 v3 S = (some r) → aFr W_X2_remove_8 S r
  | 0, _, _, _, _, h => nomatch (show (none : Option (aSt)) = some _ from h)
  | n + 1, v2, v3, S, _, h => F_X2_remove_8_b14 hrec4 (fun v2 v3 S _ h => F_X2_remove_8_l14 hrec4 n v2 v3 S h) v2 v3 S h
theorem F_X2_remove_8_b4 {N : Nat} {rec4 : Int32 → aSt → Option (aSt)} (hrec4 : ∀ (v2 : Int32) (S : aSt) {r : aSt}, rec4 v2 S = (some r) → aFr W_X2_remove_8 S r) (v2 : Int32) (S : aSt) {r : aSt} (hf : X2_remove_8_b4 N rec4 v2 S = (some r)) : aFr W_X2_remove_8 S r := by
  unfold X2_remove_8_b4 at hf
  rcases aIfE hf with ⟨-, hf⟩ | ⟨-, hf⟩
  · exact aFr.tr aFr.rf (F_X2_remove_8_b45 S hf)
  · exact aFr.tr aFr.rf (F_X2_remove_8_l14 hrec4 N v2 (0 : Int32) S hf)
theorem F_X2_remove_8_l4 {N : Nat} : ∀ (n : Nat) (v2 : Int32) (S : aSt) {r : aSt}, X2_remove_8_l4 N n v2 S = (some r) → aFr W_X2_remove_8 S r
  | 0, _, _, _, h => nomatch (show (none : Option (aSt)) = some _ from h)
  | n + 1, v2, S, _, h => F_X2_remove_8_b4 (fun v2 S _ h => F_X2_remove_8_l4 n v2 S h) v2 S h
theorem F_X2_remove_8 (N : Nat) (a1 : Int32) (S : aSt) {r : aSt} (hf : X2_remove_8 N a1 S = (some r)) : aFr W_X2_remove_8 S r := by
  unfold X2_remove_8 at hf
  exact aFr.tr aFr.rf (F_X2_remove_8_l4 N (a1 + (1 : Int32)) S hf)
def W_X10_strike_0 : aWr := ([(8, 0), (8, 4)], [], [9])
theorem F_X10_strike_0 (N : Nat) (a1 : Int32) (S : aSt) {r : Int32 × aSt} (hf : X10_strike_0 N a1 S = (some r)) : aFr W_X10_strike_0 S r.2 := by
  unfold X10_strike_0 at hf
  obtain ⟨w1, ew2, hf⟩ := aLetE hf
  rcases aIfE hf with ⟨-, hf⟩ | ⟨-, hf⟩
  · have e9 := Option.some.inj hf; subst e9
    exact aFr.rf
  · obtain ⟨w4, ew5, hf⟩ := aBnE hf
    have hw4 : aFr W_X10_strike_0 S w4 := aFr.tr aFr.rf ((F_X2_remove_8 N a1 S ew5).mono (by decide))
    have e9 := Option.some.inj hf; subst e9
    exact hw4
def W_X10_two_0 : aWr := ([(0, 10), (14, 0), (22, 0), (25, 0), (28, 2), (28, 3), (29, 2), (29, 3), (30, 0), (34, 0)], [(22, 1), (25, 1), (28, 0), (28, 1), (28, 4), (29, 0), (29, 1), (29, 4), (30, 1), (30, 2), (34, 1), (34, 2)], [15, 16, 17, 18, 19, 20, 21, 23, 24, 26, 27, 31, 32, 33, 35, 36, 37])
theorem F_X10_two_0 (N : Nat) (a1 : Int32) (S : aSt) {r : Int64 × aSt} (hf : X10_two_0 N a1 S = (some r)) : aFr W_X10_two_0 S r.2 := by
  unfold X10_two_0 at hf
  rcases aIfE hf with ⟨-, hf⟩ | ⟨-, hf⟩
  · have e9 := Option.some.inj hf; subst e9
    exact aFr.rf
  · rcases aIfE hf with ⟨-, hf⟩ | ⟨-, hf⟩
    · obtain ⟨w3, ew4, hf⟩ := aBnE hf
      have hw3 : aFr W_X10_two_0 S w3 := aFr.tr aFr.rf ((F_X10_workOut_0 N  S ew4).mono (by decide))
      rcases aIfE hf with ⟨-, hf⟩ | ⟨-, hf⟩
      · have e9 := Option.some.inj hf; subst e9
        exact hw3
      · have e9 := Option.some.inj hf; subst e9
        exact hw3
    · have e9 := Option.some.inj hf; subst e9
      exact aFr.rf
def W_X10_whose_0 : aWr := ([(0, 10), (14, 0), (22, 0), (25, 0), (28, 2), (28, 3), (29, 2), (29, 3), (30, 0), (34, 0)], [(22, 1), (25, 1), (28, 0), (28, 1), (28, 4), (29, 0), (29, 1), (29, 4), (30, 1), (30, 2), (34, 1), (34, 2)], [15, 16, 17, 18, 19, 20, 21, 23, 24, 26, 27, 31, 32, 33, 35, 36, 37])
theorem F_X10_whose_0 (N : Nat) (a1 : Int32) (a2 : Int32) (S : aSt) {r : Int32 × aSt} (hf : X10_whose_0 N a1 a2 S = (some r)) : aFr W_X10_whose_0 S r.2 := by
  unfold X10_whose_0 at hf
  obtain ⟨w1, ew2, hf⟩ := aLetE hf
  rcases aIfE hf with ⟨-, hf⟩ | ⟨-, hf⟩
  · have e9 := Option.some.inj hf; subst e9
    exact aFr.rf
  · obtain ⟨w4, ew5, hf⟩ := aLetE hf
    rcases aIfE hf with ⟨-, hf⟩ | ⟨-, hf⟩
    · have e9 := Option.some.inj hf; subst e9
      exact aFr.rf
    · obtain ⟨w7, ew8, hf⟩ := aBnE hf
      have hw7 : aFr W_X10_whose_0 S w7 := aFr.tr aFr.rf ((F_X10_workOut_0 N  S ew8).mono (by decide))
      rcases aIfE hf with ⟨-, hf⟩ | ⟨-, hf⟩
      · have e9 := Option.some.inj hf; subst e9
        exact hw7
      · obtain ⟨w10, ew11, hf⟩ := aBnE hf
        obtain ⟨w12, ew13, hf⟩ := aBnE hf
        have e9 := Option.some.inj hf; subst e9
        exact hw7
def W_X6_set_2 : aWr := ([], [], [2])
theorem F_X6_set_2 (a1 : Int32) (a2 : Int32) (S : aSt) {r : aSt} (hf : X6_set_2 a1 a2 S = r) : aFr W_X6_set_2 S r := by
  unfold X6_set_2 at hf
  rcases aIfE hf with ⟨-, hf⟩ | ⟨-, hf⟩
  · subst hf
    exact aFr.rf
  · rcases aIfE hf with ⟨-, hf⟩ | ⟨-, hf⟩
    · subst hf
      exact aFr.rf
    · subst hf
      exact (aFr.A aFr.rf 2 _ (by decide))
def W_X9_append_1 : aWr := ([(1, 0)], [], [2])
theorem F_X9_append_1 (a1 : Int32) (S : aSt) {r : aSt} (hf : X9_append_1 a1 S = r) : aFr W_X9_append_1 S r := by
  unfold X9_append_1 at hf
  obtain ⟨w1, ew2, hf⟩ := aLetE hf
  have hw1 : aFr W_X9_append_1 S w1 := aFr.tr aFr.rf ((F_X6_set_2 (S.1 1 0) a1 S ew2).mono (by decide))
  subst hf
  exact (aFr.I hw1 1 0 _ (by decide))
def W_X10_write_0 : aWr := ([(1, 0)], [], [2])
theorem F_X10_write_0_b35 {N : Nat} {rec35 : Int64 → Int32 → Int32 → aSt → Option (Int32 × aSt)} (hrec35 : ∀ (v1 : Int64) (v3 : Int32) (v4 : Int32) (S : aSt) {r : Int32 × aSt}, rec35 v1 v3 v4 S = (some r) → aFr W_X10_write_0 S r.2) (v1 : Int64) (v3 : Int32) (v4 : Int32) (S : aSt) {r : Int32 × aSt} (hf : X10_write_0_b35 N rec35 v1 v3 v4 S = (some r)) : aFr W_X10_write_0 S r.2 := by
  unfold X10_write_0_b35 at hf
  rcases aIfE hf with ⟨-, hf⟩ | ⟨-, hf⟩
  · have e9 := Option.some.inj hf; subst e9
    exact aFr.rf
  · obtain ⟨w5, ew6, hf⟩ := aLetE hf
    have hw5 : aFr W_X10_write_0 S w5 := aFr.tr aFr.rf ((F_X9_append_1 (((v1 >>> (((8 : Int32) * v4).toInt64 &&& 63)) &&& (255 : Int64)).toInt32) S ew6).mono (by decide))
    exact aFr.tr hw5 (hrec35 v1 v3 (v4 + (1 : Int32)) w5 hf)
theorem F_X10_write_0_l35 {N : Nat} : ∀ (n : Nat) (v1 : Int64) (v3 : Int32) (v4 : Int32) (S : aSt) {r : Int32 × aSt}, X10_write_0_l35 N n v1 v3 v4 S = (some r) → aFr W_X10_write_0 S r.2
  | 0, _, _, _, _, _, h => nomatch (show (none : Option (Int32 × aSt)) = some _ from h)
  | n + 1, v1, v3, v4, S, _, h => F_X10_write_0_b35 (fun v1 v3 v4 S _ h => F_X10_write_0_l35 n v1 v3 v4 S h) v1 v3 v4 S h
theorem F_X10_write_0 (N : Nat) (a1 : Int64) (a3 : Int32) (S : aSt) {r : Int32 × aSt} (hf : X10_write_0 N a1 a3 S = (some r)) : aFr W_X10_write_0 S r.2 := by
  unfold X10_write_0 at hf
  rcases aIfE hf with ⟨-, hf⟩ | ⟨-, hf⟩
  · have e9 := Option.some.inj hf; subst e9
    exact aFr.rf
  · rcases aIfE hf with ⟨-, hf⟩ | ⟨-, hf⟩
    · rcases aIfE hf with ⟨-, hf⟩ | ⟨-, hf⟩
      · exact aFr.tr aFr.rf (F_X10_write_0_l35 N a1 a3 (0 : Int32) S hf)
      · have e9 := Option.some.inj hf; subst e9
        exact aFr.rf
    · have e9 := Option.some.inj hf; subst e9
      exact aFr.rf
def W_X11_token_42 : aWr := ([(42, 15), (42, 16), (42, 17)], [], [])
theorem F_X11_token_42_b137 {N : Nat} (S : aSt) {r : aSt} (hf : X11_token_42_b137 N S = (some r)) : aFr W_X11_token_42 S r := by
  unfold X11_token_42_b137 at hf
  have e9 := Option.some.inj hf; subst e9
  exact (aFr.I aFr.rf 42 17 _ (by decide))
theorem F_X11_token_42_b71 {N : Nat} {rec71 : aSt → Option (aSt)} (hrec71 : ∀ (S : aSt) {r : aSt}, rec71 S = (some r) → aFr W_X11_token_42 S r) (S : aSt) {r : aSt} (hf : X11_token_42_b71 N rec71 S = (some r)) : aFr W_X11_token_42 S r := by
  unfold X11_token_42_b71 at hf
  rcases aIfE hf with ⟨-, hf⟩ | ⟨-, hf⟩
  · exact aFr.tr aFr.rf (F_X11_token_42_b137 S hf)
  · obtain ⟨-, hf⟩ := aGdE hf
    obtain ⟨w5, ew6, hf⟩ := aLetE hf
    rcases aIfE hf with ⟨-, hf⟩ | ⟨-, hf⟩
    · exact aFr.tr aFr.rf (F_X11_token_42_b137 S hf)
    · obtain ⟨-, hf⟩ := aGdE hf
      obtain ⟨w9, ew10, hf⟩ := aLetE hf
      obtain ⟨-, hf⟩ := aGdE hf
      obtain ⟨w12, ew13, hf⟩ := aLetE hf
      rcases aIfE hf with ⟨-, hf⟩ | ⟨-, hf⟩
      · exact aFr.tr (aFr.I aFr.rf 42 15 _ (by decide)) (hrec71 (aI S 42 15 ((S.1 42 15) + (1 : Int32))) hf)
      · exact aFr.tr aFr.rf (F_X11_token_42_b137 S hf)
theorem F_X11_token_42_l71 {N : Nat} : ∀ (n : Nat) (S : aSt) {r : aSt}, X11_token_42_l71 N n S = (some r) → aFr W_X11_token_42 S r
  | 0, _, _, h => nomatch (show (none : Option (aSt)) = some _ from h)
  | n + 1, S, _, h => F_X11_token_42_b71 (fun S _ h => F_X11_token_42_l71 n S h) S h
theorem F_X11_token_42_b67 {N : Nat} (s0 : Int32) (s1 : Int32) (S : aSt) {r : aSt} (hf : X11_token_42_b67 N s0 s1 S = (some r)) : aFr W_X11_token_42 S r := by
  unfold X11_token_42_b67 at hf
  exact aFr.tr (aFr.I aFr.rf 42 15 _ (by decide)) (F_X11_token_42_l71 N (aI S 42 15 (s1 + s0)) hf)
theorem F_X11_token_42_b38 {N : Nat} (S : aSt) {r : aSt} (hf : X11_token_42_b38 N S = (some r)) : aFr W_X11_token_42 S r := by
  unfold X11_token_42_b38 at hf
  rcases aIfE hf with ⟨-, hf⟩ | ⟨-, hf⟩
  · exact aFr.tr (aFr.I aFr.rf 42 16 _ (by decide)) (F_X11_token_42_b67 (0 : Int32) (S.1 42 15) (aI S 42 16 (S.1 42 15)) hf)
  · exact aFr.tr (aFr.I aFr.rf 42 16 _ (by decide)) (F_X11_token_42_b67 (1 : Int32) (S.1 42 15) (aI S 42 16 (S.1 42 15)) hf)
theorem F_X11_token_42_b0 {N : Nat} {rec0 : aSt → Option (aSt)} (hrec0 : ∀ (S : aSt) {r : aSt}, rec0 S = (some r) → aFr W_X11_token_42 S r) (S : aSt) {r : aSt} (hf : X11_token_42_b0 N rec0 S = (some r)) : aFr W_X11_token_42 S r := by
  unfold X11_token_42_b0 at hf
  rcases aIfE hf with ⟨-, hf⟩ | ⟨-, hf⟩
  · exact aFr.tr aFr.rf (F_X11_token_42_b38 S hf)
  · obtain ⟨-, hf⟩ := aGdE hf
    rcases aIfE hf with ⟨-, hf⟩ | ⟨-, hf⟩
    · exact aFr.tr (aFr.I aFr.rf 42 15 _ (by decide)) (hrec0 (aI S 42 15 ((S.1 42 15) + (1 : Int32))) hf)
    · exact aFr.tr aFr.rf (F_X11_token_42_b38 S hf)
theorem F_X11_token_42_l0 {N : Nat} : ∀ (n : Nat) (S : aSt) {r : aSt}, X11_token_42_l0 N n S = (some r) → aFr W_X11_token_42 S r
  | 0, _, _, h => nomatch (show (none : Option (aSt)) = some _ from h)
  | n + 1, S, _, h => F_X11_token_42_b0 (fun S _ h => F_X11_token_42_l0 n S h) S h
theorem F_X11_token_42 (N : Nat) (S : aSt) {r : aSt} (hf : X11_token_42 N S = (some r)) : aFr W_X11_token_42 S r := by
  unfold X11_token_42 at hf
  rcases aIfE hf with ⟨-, hf⟩ | ⟨-, hf⟩
  · exact aFr.tr aFr.rf (F_X11_token_42_b38 S hf)
  · obtain ⟨-, hf⟩ := aGdE hf
    rcases aIfE hf with ⟨-, hf⟩ | ⟨-, hf⟩
    · exact aFr.tr (aFr.I aFr.rf 42 15 _ (by decide)) (F_X11_token_42_l0 N (aI S 42 15 ((S.1 42 15) + (1 : Int32))) hf)
    · exact aFr.tr aFr.rf (F_X11_token_42_b38 S hf)
def W_X11_reads_42 : aWr := ([(42, 15), (42, 16), (42, 17)], [], [44])
theorem F_X11_reads_42 (N : Nat) (a1 : Int32) (a2 : Int32) (a3 : Int32) (S : aSt) {r : Int32 × aSt} (hf : X11_reads_42 N a1 a2 a3 S = (some r)) : aFr W_X11_reads_42 S r.2 := by
  unfold X11_reads_42 at hf
  obtain ⟨w1, ew2, hf⟩ := aBnE hf
  rcases aIfE hf with ⟨-, hf⟩ | ⟨-, hf⟩
  · have e9 := Option.some.inj hf; subst e9
    exact aFr.rf
  · obtain ⟨w4, ew5, hf⟩ := aBnE hf
    obtain ⟨w6, ew7, hf⟩ := aLetE hf
    rcases aIfE hf with ⟨-, hf⟩ | ⟨-, hf⟩
    · have e9 := Option.some.inj hf; subst e9
      exact aFr.rf
    · obtain ⟨w9, ew10, hf⟩ := aBnE hf
      obtain ⟨-, hf⟩ := aGdE hf
      obtain ⟨w12, ew13, hf⟩ := aBnE hf
      have hw12 : aFr W_X11_reads_42 S w12 := aFr.tr (aFr.A aFr.rf 44 _ (by decide)) ((F_X11_token_42 N  (aA S 44 (upd (S.2.2 44) ((((5 : Int32) * (S.1 42 3)) + (1 : Int32)) + a1).toNatClampNeg w9)) ew13).mono (by decide))
      have e9 := Option.some.inj hf; subst e9
      exact hw12
def W_X11_readsPage_42 : aWr := ([(42, 15), (42, 16), (42, 17)], [], [44])
theorem F_X11_readsPage_42_b69 {N : Nat} (v1 : Int32) (s0 : Int32) (s1 : Int32) (S : aSt) {r : Int32 × aSt} (hf : X11_readsPage_42_b69 N v1 s0 s1 S = (some r)) : aFr W_X11_readsPage_42 S r.2 := by
  unfold X11_readsPage_42_b69 at hf
  obtain ⟨-, hf⟩ := aGdE hf
  obtain ⟨-, hf⟩ := aGdE hf
  rcases aIfE hf with ⟨-, hf⟩ | ⟨-, hf⟩
  · have e9 := Option.some.inj hf; subst e9
    exact (aFr.A aFr.rf 44 _ (by decide))
  · obtain ⟨w16, ew17, hf⟩ := aBnE hf
    have hw16 : aFr W_X11_readsPage_42 S w16 := aFr.tr (aFr.A aFr.rf 44 _ (by decide)) ((F_X11_token_42 N  (aA S 44 (upd (S.2.2 44) s1.toNatClampNeg s0)) ew17).mono (by decide))
    obtain ⟨-, hf⟩ := aGdE hf
    rcases aIfE hf with ⟨-, hf⟩ | ⟨-, hf⟩
    · have e9 := Option.some.inj hf; subst e9
      exact hw16
    · obtain ⟨w20, ew21, hf⟩ := aBnE hf
      have hw20 : aFr W_X11_readsPage_42 S w20.2 := aFr.tr hw16 ((F_X11_reads_42 N (2 : Int32) (0 : Int32) (999999 : Int32) w16 ew21).mono (by decide))
      rcases aIfE hf with ⟨-, hf⟩ | ⟨-, hf⟩
      · have e9 := Option.some.inj hf; subst e9
        exact hw20
      · have e9 := Option.some.inj hf; subst e9
        exact hw20
theorem F_X11_readsPage_42 (N : Nat) (S : aSt) {r : Int32 × aSt} (hf : X11_readsPage_42 N S = (some r)) : aFr W_X11_readsPage_42 S r.2 := by
  unfold X11_readsPage_42 at hf
  obtain ⟨w1, ew2, hf⟩ := aBnE hf
  have hw1 : aFr W_X11_readsPage_42 S w1.2 := aFr.tr aFr.rf ((F_X11_reads_42 N (0 : Int32) (0 : Int32) (5 : Int32) S ew2).mono (by decide))
  rcases aIfE hf with ⟨-, hf⟩ | ⟨-, hf⟩
  · have e9 := Option.some.inj hf; subst e9
    exact hw1
  · obtain ⟨w4, ew5, hf⟩ := aBnE hf
    rcases aIfE hf with ⟨-, hf⟩ | ⟨-, hf⟩
    · obtain ⟨w7, ew8, hf⟩ := aBnE hf
      rcases aIfE hf with ⟨-, hf⟩ | ⟨-, hf⟩
      · obtain ⟨w10, ew11, hf⟩ := aBnE hf
        rcases aIfE hf with ⟨-, hf⟩ | ⟨-, hf⟩
        · exact aFr.tr hw1 (F_X11_readsPage_42_b69 ((5 : Int32) * (w1.2.1 42 3)) ((-1) : Int32) (((5 : Int32) * (w1.2.1 42 3)) + (2 : Int32)) w1.2 hf)
        · exact aFr.tr hw1 (F_X11_readsPage_42_b69 ((5 : Int32) * (w1.2.1 42 3)) (2 : Int32) (((5 : Int32) * (w1.2.1 42 3)) + (2 : Int32)) w1.2 hf)
      · exact aFr.tr hw1 (F_X11_readsPage_42_b69 ((5 : Int32) * (w1.2.1 42 3)) (1 : Int32) (((5 : Int32) * (w1.2.1 42 3)) + (2 : Int32)) w1.2 hf)
    · exact aFr.tr hw1 (F_X11_readsPage_42_b69 ((5 : Int32) * (w1.2.1 42 3)) (0 : Int32) (((5 : Int32) * (w1.2.1 42 3)) + (2 : Int32)) w1.2 hf)
def W_X11_readsRest_42 : aWr := ([(42, 15), (42, 16), (42, 17)], [], [44])
theorem F_X11_readsRest_42_b171 {N : Nat} (S : aSt) {r : Int32 × aSt} (hf : X11_readsRest_42_b171 N S = (some r)) : aFr W_X11_readsRest_42 S r.2 := by
  unfold X11_readsRest_42_b171 at hf
  obtain ⟨w48, ew49, hf⟩ := aBnE hf
  have hw48 : aFr W_X11_readsRest_42 S w48.2 := aFr.tr aFr.rf ((F_X11_reads_42 N (1 : Int32) (0 : Int32) (9 : Int32) S ew49).mono (by decide))
  rcases aIfE hf with ⟨-, hf⟩ | ⟨-, hf⟩
  · have e9 := Option.some.inj hf; subst e9
    exact hw48
  · obtain ⟨w51, ew52, hf⟩ := aBnE hf
    have hw51 : aFr W_X11_readsRest_42 S w51.2 := aFr.tr hw48 ((F_X11_reads_42 N (2 : Int32) (0 : Int32) (99 : Int32) w48.2 ew52).mono (by decide))
    rcases aIfE hf with ⟨-, hf⟩ | ⟨-, hf⟩
    · have e9 := Option.some.inj hf; subst e9
      exact hw51
    · have e9 := Option.some.inj hf; subst e9
      exact hw51
theorem F_X11_readsRest_42 (N : Nat) (a1 : Int32) (S : aSt) {r : Int32 × aSt} (hf : X11_readsRest_42 N a1 S = (some r)) : aFr W_X11_readsRest_42 S r.2 := by
  unfold X11_readsRest_42 at hf
  rcases aTswE hf with ⟨-, hf⟩ | ⟨-, hf⟩
  · obtain ⟨w2, ew3, hf⟩ := aBnE hf
    have hw2 : aFr W_X11_readsRest_42 S w2.2 := aFr.tr aFr.rf ((F_X11_reads_42 N (0 : Int32) (0 : Int32) (99 : Int32) S ew3).mono (by decide))
    obtain ⟨-, hf⟩ := aGdE hf
    have e9 := Option.some.inj hf; subst e9
    exact hw2
  · rcases aIfE hf with ⟨-, hf⟩ | ⟨-, hf⟩
    · obtain ⟨w6, ew7, hf⟩ := aBnE hf
      have hw6 : aFr W_X11_readsRest_42 S w6.2 := aFr.tr aFr.rf ((F_X11_reads_42 N (0 : Int32) (1 : Int32) (999999 : Int32) S ew7).mono (by decide))
      rcases aIfE hf with ⟨-, hf⟩ | ⟨-, hf⟩
      · have e9 := Option.some.inj hf; subst e9
        exact hw6
      · obtain ⟨w9, ew10, hf⟩ := aBnE hf
        have hw9 : aFr W_X11_readsRest_42 S w9.2 := aFr.tr hw6 ((F_X11_reads_42 N (1 : Int32) (0 : Int32) (7 : Int32) w6.2 ew10).mono (by decide))
        rcases aIfE hf with ⟨-, hf⟩ | ⟨-, hf⟩
        · have e9 := Option.some.inj hf; subst e9
          exact hw9
        · obtain ⟨w12, ew13, hf⟩ := aBnE hf
          have hw12 : aFr W_X11_readsRest_42 S w12.2 := aFr.tr hw9 ((F_X11_reads_42 N (2 : Int32) (0 : Int32) (3 : Int32) w9.2 ew13).mono (by decide))
          rcases aIfE hf with ⟨-, hf⟩ | ⟨-, hf⟩
          · have e9 := Option.some.inj hf; subst e9
            exact hw12
          · obtain ⟨w15, ew16, hf⟩ := aBnE hf
            have hw15 : aFr W_X11_readsRest_42 S w15.2 := aFr.tr hw12 ((F_X11_reads_42 N (3 : Int32) (0 : Int32) (5 : Int32) w12.2 ew16).mono (by decide))
            rcases aIfE hf with ⟨-, hf⟩ | ⟨-, hf⟩
            · have e9 := Option.some.inj hf; subst e9
              exact hw15
            · have e9 := Option.some.inj hf; subst e9
              exact hw15
    · rcases aIfE hf with ⟨-, hf⟩ | ⟨-, hf⟩
      · obtain ⟨w19, ew20, hf⟩ := aBnE hf
        have hw19 : aFr W_X11_readsRest_42 S w19.2 := aFr.tr aFr.rf ((F_X11_reads_42 N (0 : Int32) (1 : Int32) (999999 : Int32) S ew20).mono (by decide))
        rcases aIfE hf with ⟨-, hf⟩ | ⟨-, hf⟩
        · have e9 := Option.some.inj hf; subst e9
          exact hw19
        · obtain ⟨w22, ew23, hf⟩ := aBnE hf
          have hw22 : aFr W_X11_readsRest_42 S w22.2 := aFr.tr hw19 ((F_X11_reads_42 N (1 : Int32) (0 : Int32) (7 : Int32) w19.2 ew23).mono (by decide))
          rcases aIfE hf with ⟨-, hf⟩ | ⟨-, hf⟩
          · have e9 := Option.some.inj hf; subst e9
            exact hw22
          · obtain ⟨w25, ew26, hf⟩ := aBnE hf
            have hw25 : aFr W_X11_readsRest_42 S w25.2 := aFr.tr hw22 ((F_X11_reads_42 N (2 : Int32) (0 : Int32) (3 : Int32) w22.2 ew26).mono (by decide))
            rcases aIfE hf with ⟨-, hf⟩ | ⟨-, hf⟩
            · have e9 := Option.some.inj hf; subst e9
              exact hw25
            · obtain ⟨w28, ew29, hf⟩ := aBnE hf
              have hw28 : aFr W_X11_readsRest_42 S w28.2 := aFr.tr hw25 ((F_X11_reads_42 N (3 : Int32) (0 : Int32) (5 : Int32) w25.2 ew29).mono (by decide))
              rcases aIfE hf with ⟨-, hf⟩ | ⟨-, hf⟩
              · have e9 := Option.some.inj hf; subst e9
                exact hw28
              · have e9 := Option.some.inj hf; subst e9
                exact hw28
      · rcases aIfE hf with ⟨-, hf⟩ | ⟨-, hf⟩
        · obtain ⟨w32, ew33, hf⟩ := aBnE hf
          have hw32 : aFr W_X11_readsRest_42 S w32.2 := aFr.tr aFr.rf ((F_X11_reads_42 N (0 : Int32) (0 : Int32) (3 : Int32) S ew33).mono (by decide))
          rcases aIfE hf with ⟨-, hf⟩ | ⟨-, hf⟩
          · have e9 := Option.some.inj hf; subst e9
            exact hw32
          · obtain ⟨w35, ew36, hf⟩ := aBnE hf
            have hw35 : aFr W_X11_readsRest_42 S w35.2 := aFr.tr hw32 ((F_X11_reads_42 N (1 : Int32) (0 : Int32) (4 : Int32) w32.2 ew36).mono (by decide))
            rcases aIfE hf with ⟨-, hf⟩ | ⟨-, hf⟩
            · have e9 := Option.some.inj hf; subst e9
              exact hw35
            · obtain ⟨w38, ew39, hf⟩ := aBnE hf
              have hw38 : aFr W_X11_readsRest_42 S w38.2 := aFr.tr hw35 ((F_X11_reads_42 N (2 : Int32) (0 : Int32) (99 : Int32) w35.2 ew39).mono (by decide))
              rcases aIfE hf with ⟨-, hf⟩ | ⟨-, hf⟩
              · have e9 := Option.some.inj hf; subst e9
                exact hw38
              · have e9 := Option.some.inj hf; subst e9
                exact hw38
        · rcases aIfE hf with ⟨-, hf⟩ | ⟨-, hf⟩
          · obtain ⟨w42, ew43, hf⟩ := aBnE hf
            have hw42 : aFr W_X11_readsRest_42 S w42.2 := aFr.tr aFr.rf ((F_X11_reads_42 N (0 : Int32) (0 : Int32) (9 : Int32) S ew43).mono (by decide))
            rcases aIfE hf with ⟨-, hf⟩ | ⟨-, hf⟩
            · have e9 := Option.some.inj hf; subst e9
              exact hw42
            · obtain ⟨w45, ew46, hf⟩ := aBnE hf
              rcases aIfE hf with ⟨-, hf⟩ | ⟨-, hf⟩
              · exact aFr.tr hw42 (F_X11_readsRest_42_b171 w42.2 hf)
              · obtain ⟨w54, ew55, hf⟩ := aBnE hf
                obtain ⟨-, hf⟩ := aGdE hf
                rcases aIfE hf with ⟨-, hf⟩ | ⟨-, hf⟩
                · have e9 := Option.some.inj hf; subst e9
                  exact hw42
                · exact aFr.tr hw42 (F_X11_readsRest_42_b171 w42.2 hf)
          · rcases aIfE hf with ⟨-, hf⟩ | ⟨-, hf⟩
            · obtain ⟨w59, ew60, hf⟩ := aBnE hf
              have hw59 : aFr W_X11_readsRest_42 S w59.2 := aFr.tr aFr.rf ((F_X11_reads_42 N (0 : Int32) (0 : Int32) (99 : Int32) S ew60).mono (by decide))
              obtain ⟨-, hf⟩ := aGdE hf
              have e9 := Option.some.inj hf; subst e9
              exact hw59
            · rcases aIfE hf with ⟨-, hf⟩ | ⟨-, hf⟩
              · obtain ⟨w63, ew64, hf⟩ := aBnE hf
                have hw63 : aFr W_X11_readsRest_42 S w63.2 := aFr.tr aFr.rf ((F_X11_reads_42 N (0 : Int32) (0 : Int32) (99 : Int32) S ew64).mono (by decide))
                obtain ⟨-, hf⟩ := aGdE hf
                have e9 := Option.some.inj hf; subst e9
                exact hw63
              · rcases aIfE hf with ⟨-, hf⟩ | ⟨-, hf⟩
                · obtain ⟨w67, ew68, hf⟩ := aBnE hf
                  have hw67 : aFr W_X11_readsRest_42 S w67.2 := aFr.tr aFr.rf ((F_X11_reads_42 N (0 : Int32) (0 : Int32) (99 : Int32) S ew68).mono (by decide))
                  obtain ⟨-, hf⟩ := aGdE hf
                  have e9 := Option.some.inj hf; subst e9
                  exact hw67
                · rcases aIfE hf with ⟨-, hf⟩ | ⟨-, hf⟩
                  · obtain ⟨w71, ew72, hf⟩ := aBnE hf
                    have hw71 : aFr W_X11_readsRest_42 S w71.2 := aFr.tr aFr.rf ((F_X11_readsPage_42 N  S ew72).mono (by decide))
                    obtain ⟨-, hf⟩ := aGdE hf
                    have e9 := Option.some.inj hf; subst e9
                    exact hw71
                  · cases hf
def W_X11_readsLine_42 : aWr := ([(42, 3), (42, 15), (42, 16), (42, 17)], [], [44])
theorem F_X11_readsLine_42_b117 {N : Nat} (s0 : Int32) (S : aSt) {r : Int32 × aSt} (hf : X11_readsLine_42_b117 N s0 S = (some r)) : aFr W_X11_readsLine_42 S r.2 := by
  unfold X11_readsLine_42_b117 at hf
  rcases aIfE hf with ⟨-, hf⟩ | ⟨-, hf⟩
  · have e9 := Option.some.inj hf; subst e9
    exact aFr.rf
  · obtain ⟨w26, ew27, hf⟩ := aBnE hf
    have hw26 : aFr W_X11_readsLine_42 S w26 := aFr.tr aFr.rf ((F_X11_token_42 N  S ew27).mono (by decide))
    obtain ⟨-, hf⟩ := aGdE hf
    obtain ⟨w29, ew30, hf⟩ := aBnE hf
    have hw29 : aFr W_X11_readsLine_42 S w29.2 := aFr.tr (aFr.A hw26 44 _ (by decide)) ((F_X11_readsRest_42 N s0 (aA w26 44 (upd (w26.2.2 44) ((5 : Int32) * (w26.1 42 3)).toNatClampNeg s0)) ew30).mono (by decide))
    rcases aIfE hf with ⟨-, hf⟩ | ⟨-, hf⟩
    · have e9 := Option.some.inj hf; subst e9
      exact hw29
    · have e9 := Option.some.inj hf; subst e9
      exact (aFr.I hw29 42 3 _ (by decide))
theorem F_X11_readsLine_42 (N : Nat) (S : aSt) {r : Int32 × aSt} (hf : X11_readsLine_42 N S = (some r)) : aFr W_X11_readsLine_42 S r.2 := by
  unfold X11_readsLine_42 at hf
  obtain ⟨w1, ew2, hf⟩ := aBnE hf
  rcases aIfE hf with ⟨-, hf⟩ | ⟨-, hf⟩
  · obtain ⟨w4, ew5, hf⟩ := aBnE hf
    rcases aIfE hf with ⟨-, hf⟩ | ⟨-, hf⟩
    · obtain ⟨w7, ew8, hf⟩ := aBnE hf
      rcases aIfE hf with ⟨-, hf⟩ | ⟨-, hf⟩
      · obtain ⟨w10, ew11, hf⟩ := aBnE hf
        rcases aIfE hf with ⟨-, hf⟩ | ⟨-, hf⟩
        · obtain ⟨w13, ew14, hf⟩ := aBnE hf
          rcases aIfE hf with ⟨-, hf⟩ | ⟨-, hf⟩
          · obtain ⟨w16, ew17, hf⟩ := aBnE hf
            rcases aIfE hf with ⟨-, hf⟩ | ⟨-, hf⟩
            · obtain ⟨w19, ew20, hf⟩ := aBnE hf
              rcases aIfE hf with ⟨-, hf⟩ | ⟨-, hf⟩
              · obtain ⟨w22, ew23, hf⟩ := aBnE hf
                rcases aIfE hf with ⟨-, hf⟩ | ⟨-, hf⟩
                · exact aFr.tr aFr.rf (F_X11_readsLine_42_b117 ((-1) : Int32) S hf)
                · exact aFr.tr aFr.rf (F_X11_readsLine_42_b117 (7 : Int32) S hf)
              · exact aFr.tr aFr.rf (F_X11_readsLine_42_b117 (6 : Int32) S hf)
            · exact aFr.tr aFr.rf (F_X11_readsLine_42_b117 (5 : Int32) S hf)
          · exact aFr.tr aFr.rf (F_X11_readsLine_42_b117 (4 : Int32) S hf)
        · exact aFr.tr aFr.rf (F_X11_readsLine_42_b117 (3 : Int32) S hf)
      · exact aFr.tr aFr.rf (F_X11_readsLine_42_b117 (2 : Int32) S hf)
    · exact aFr.tr aFr.rf (F_X11_readsLine_42_b117 (1 : Int32) S hf)
  · exact aFr.tr aFr.rf (F_X11_readsLine_42_b117 (0 : Int32) S hf)
def W_X11_fault_42 : aWr := ([(42, 3), (42, 15), (42, 16), (42, 17)], [], [44])
theorem F_X11_fault_42_b92 {N : Nat} {rec26 : aSt → Option (Int32 × aSt)} (hrec26 : ∀ (S : aSt) {r : Int32 × aSt}, rec26 S = (some r) → aFr W_X11_fault_42 S r.2) (v1 : Int32) (S : aSt) {r : Int32 × aSt} (hf : X11_fault_42_b92 N rec26 v1 S = (some r)) : aFr W_X11_fault_42 S r.2 := by
  unfold X11_fault_42_b92 at hf
  rcases aIfE hf with ⟨-, hf⟩ | ⟨-, hf⟩
  · have e9 := Option.some.inj hf; subst e9
    exact aFr.rf
  · exact aFr.tr aFr.rf (hrec26 S hf)
theorem F_X11_fault_42_b78 {N : Nat} {rec26 : aSt → Option (Int32 × aSt)} (hrec26 : ∀ (S : aSt) {r : Int32 × aSt}, rec26 S = (some r) → aFr W_X11_fault_42 S r.2) (s0 : Int32) (S : aSt) {r : Int32 × aSt} (hf : X11_fault_42_b78 N rec26 s0 S = (some r)) : aFr W_X11_fault_42 S r.2 := by
  unfold X11_fault_42_b78 at hf
  rcases aIfE hf with ⟨-, hf⟩ | ⟨-, hf⟩
  · exact aFr.tr aFr.rf (F_X11_fault_42_b92 hrec26 s0 S hf)
  · obtain ⟨w10, ew11, hf⟩ := aBnE hf
    have hw10 : aFr W_X11_fault_42 S w10 := aFr.tr aFr.rf ((F_X11_token_42 N  S ew11).mono (by decide))
    obtain ⟨w12, ew13, hf⟩ := aBnE hf
    have hw12 : aFr W_X11_fault_42 S w12.2 := aFr.tr hw10 ((F_X11_readsLine_42 N  w10 ew13).mono (by decide))
    exact aFr.tr hw12 (F_X11_fault_42_b92 hrec26 w12.1 w12.2 hf)
theorem F_X11_fault_42_b77 {N : Nat} {rec26 : aSt → Option (Int32 × aSt)} (hrec26 : ∀ (S : aSt) {r : Int32 × aSt}, rec26 S = (some r) → aFr W_X11_fault_42 S r.2) (S : aSt) {r : Int32 × aSt} (hf : X11_fault_42_b77 N rec26 S = (some r)) : aFr W_X11_fault_42 S r.2 := by
  unfold X11_fault_42_b77 at hf
  exact aFr.tr aFr.rf (F_X11_fault_42_b78 hrec26 (0 : Int32) S hf)
theorem F_X11_fault_42_b26 {N : Nat} {rec26 : aSt → Option (Int32 × aSt)} (hrec26 : ∀ (S : aSt) {r : Int32 × aSt}, rec26 S = (some r) → aFr W_X11_fault_42 S r.2) (S : aSt) {r : Int32 × aSt} (hf : X11_fault_42_b26 N rec26 S = (some r)) : aFr W_X11_fault_42 S r.2 := by
  unfold X11_fault_42_b26 at hf
  rcases aIfE hf with ⟨-, hf⟩ | ⟨-, hf⟩
  · have e9 := Option.some.inj hf; subst e9
    exact aFr.rf
  · rcases aIfE hf with ⟨-, hf⟩ | ⟨-, hf⟩
    · obtain ⟨-, hf⟩ := aGdE hf
      rcases aIfE hf with ⟨-, hf⟩ | ⟨-, hf⟩
      · rcases aIfE hf with ⟨-, hf⟩ | ⟨-, hf⟩
        · exact aFr.tr aFr.rf (F_X11_fault_42_b77 hrec26 S hf)
        · exact aFr.tr aFr.rf (F_X11_fault_42_b78 hrec26 (1 : Int32) S hf)
      · exact aFr.tr aFr.rf (F_X11_fault_42_b77 hrec26 S hf)
    · exact aFr.tr aFr.rf (F_X11_fault_42_b77 hrec26 S hf)
theorem F_X11_fault_42_l26 {N : Nat} : ∀ (n : Nat) (S : aSt) {r : Int32 × aSt}, X11_fault_42_l26 N n S = (some r) → aFr W_X11_fault_42 S r.2
  | 0, _, _, h => nomatch (show (none : Option (Int32 × aSt)) = some _ from h)
  | n + 1, S, _, h => F_X11_fault_42_b26 (fun S _ h => F_X11_fault_42_l26 n S h) S h
theorem F_X11_fault_42 (N : Nat) (S : aSt) {r : Int32 × aSt} (hf : X11_fault_42 N S = (some r)) : aFr W_X11_fault_42 S r.2 := by
  unfold X11_fault_42 at hf
  obtain ⟨w1, ew2, hf⟩ := aBnE hf
  have hw1 : aFr W_X11_fault_42 S w1 := aFr.tr (aFr.I (aFr.I aFr.rf 42 15 _ (by decide)) 42 3 _ (by decide)) ((F_X11_token_42 N  (aI (aI S 42 15 (0 : Int32)) 42 3 (0 : Int32)) ew2).mono (by decide))
  obtain ⟨w3, ew4, hf⟩ := aBnE hf
  have hw3 : aFr W_X11_fault_42 S w3.2 := aFr.tr hw1 ((F_X11_readsLine_42 N  w1 ew4).mono (by decide))
  rcases aIfE hf with ⟨-, hf⟩ | ⟨-, hf⟩
  · have e9 := Option.some.inj hf; subst e9
    exact hw3
  · exact aFr.tr hw3 (F_X11_fault_42_l26 N w3.2 hf)
def W_X11_lay_42 : aWr := ([(42, 5), (42, 7), (42, 10), (42, 11), (42, 12)], [], [45, 46, 47, 48])
theorem F_X11_lay_42_b249 {N : Nat} (v2 : Int32) (v3 : Int32) (v4 : Int32) (s0 : Int32) (S : aSt) {r : aSt} (hf : X11_lay_42_b249 N v2 v3 v4 s0 S = (some r)) : aFr W_X11_lay_42 S r := by
  unfold X11_lay_42_b249 at hf
  rcases aIfE hf with ⟨-, hf⟩ | ⟨-, hf⟩
  · obtain ⟨-, hf⟩ := aGdE hf
    have e9 := Option.some.inj hf; subst e9
    exact (aFr.A (aFr.I aFr.rf 42 7 _ (by decide)) 46 _ (by decide))
  · obtain ⟨-, hf⟩ := aGdE hf
    have e9 := Option.some.inj hf; subst e9
    exact (aFr.A (aFr.I aFr.rf 42 7 _ (by decide)) 46 _ (by decide))
theorem F_X11_lay_42 (N : Nat) (a1 : Int32) (S : aSt) {r : aSt} (hf : X11_lay_42 N a1 S = (some r)) : aFr W_X11_lay_42 S r := by
  unfold X11_lay_42 at hf
  obtain ⟨-, hf⟩ := aGdE hf
  obtain ⟨-, hf⟩ := aGdE hf
  obtain ⟨-, hf⟩ := aGdE hf
  obtain ⟨-, hf⟩ := aGdE hf
  rcases aTswE hf with ⟨-, hf⟩ | ⟨-, hf⟩
  · rcases aIfE hf with ⟨-, hf⟩ | ⟨-, hf⟩
    · exact aFr.tr aFr.rf (F_X11_lay_42_b249 ((S.2.2 44) (a1 + (1 : Int32)).toNatClampNeg) ((S.2.2 44) (a1 + (2 : Int32)).toNatClampNeg) ((S.2.2 44) (a1 + (3 : Int32)).toNatClampNeg) ((S.1 42 7) &&& (((1 : Int32) <<< (((S.2.2 44) (a1 + (1 : Int32)).toNatClampNeg) &&& 31)) ^^^ ((-1) : Int32))) S hf)
    · exact aFr.tr aFr.rf (F_X11_lay_42_b249 ((S.2.2 44) (a1 + (1 : Int32)).toNatClampNeg) ((S.2.2 44) (a1 + (2 : Int32)).toNatClampNeg) ((S.2.2 44) (a1 + (3 : Int32)).toNatClampNeg) ((S.1 42 7) ||| ((1 : Int32) <<< (((S.2.2 44) (a1 + (1 : Int32)).toNatClampNeg) &&& 31))) S hf)
  · rcases aIfE hf with ⟨-, hf⟩ | ⟨-, hf⟩
    · rcases aIfE hf with ⟨-, hf⟩ | ⟨-, hf⟩
      · have e9 := Option.some.inj hf; subst e9
        exact aFr.rf
      · obtain ⟨-, hf⟩ := aGdE hf
        obtain ⟨-, hf⟩ := aGdE hf
        obtain ⟨-, hf⟩ := aGdE hf
        obtain ⟨-, hf⟩ := aGdE hf
        obtain ⟨-, hf⟩ := aGdE hf
        obtain ⟨-, hf⟩ := aGdE hf
        obtain ⟨-, hf⟩ := aGdE hf
        have e9 := Option.some.inj hf; subst e9
        exact (aFr.I (aFr.A (aFr.A (aFr.A (aFr.A (aFr.A aFr.rf 45 _ (by decide)) 45 _ (by decide)) 45 _ (by decide)) 45 _ (by decide)) 45 _ (by decide)) 42 5 _ (by decide))
    · rcases aIfE hf with ⟨-, hf⟩ | ⟨-, hf⟩
      · rcases aIfE hf with ⟨-, hf⟩ | ⟨-, hf⟩
        · have e9 := Option.some.inj hf; subst e9
          exact aFr.rf
        · obtain ⟨-, hf⟩ := aGdE hf
          obtain ⟨-, hf⟩ := aGdE hf
          obtain ⟨-, hf⟩ := aGdE hf
          obtain ⟨-, hf⟩ := aGdE hf
          obtain ⟨-, hf⟩ := aGdE hf
          obtain ⟨-, hf⟩ := aGdE hf
          obtain ⟨-, hf⟩ := aGdE hf
          have e9 := Option.some.inj hf; subst e9
          exact (aFr.I (aFr.A (aFr.A (aFr.A (aFr.A (aFr.A aFr.rf 45 _ (by decide)) 45 _ (by decide)) 45 _ (by decide)) 45 _ (by decide)) 45 _ (by decide)) 42 5 _ (by decide))
      · rcases aIfE hf with ⟨-, hf⟩ | ⟨-, hf⟩
        · obtain ⟨-, hf⟩ := aGdE hf
          have e9 := Option.some.inj hf; subst e9
          exact (aFr.A aFr.rf 47 _ (by decide))
        · rcases aIfE hf with ⟨-, hf⟩ | ⟨-, hf⟩
          · obtain ⟨-, hf⟩ := aGdE hf
            have e9 := Option.some.inj hf; subst e9
            exact (aFr.A aFr.rf 48 _ (by decide))
          · rcases aIfE hf with ⟨-, hf⟩ | ⟨-, hf⟩
            · have e9 := Option.some.inj hf; subst e9
              exact (aFr.I aFr.rf 42 10 _ (by decide))
            · rcases aIfE hf with ⟨-, hf⟩ | ⟨-, hf⟩
              · have e9 := Option.some.inj hf; subst e9
                exact (aFr.I aFr.rf 42 11 _ (by decide))
              · rcases aIfE hf with ⟨-, hf⟩ | ⟨-, hf⟩
                · have e9 := Option.some.inj hf; subst e9
                  exact (aFr.I aFr.rf 42 12 _ (by decide))
                · cases hf
def W_X11_book_42 : aWr := ([(42, 1), (42, 3), (42, 5), (42, 7), (42, 10), (42, 11), (42, 12), (42, 15), (42, 16), (42, 17)], [], [44, 45, 46, 47, 48])
theorem F_X11_book_42_b34 {N : Nat} (S : aSt) {r : Int32 × aSt} (hf : X11_book_42_b34 N S = (some r)) : aFr W_X11_book_42 S r.2 := by
  unfold X11_book_42_b34 at hf
  have e9 := Option.some.inj hf; subst e9
  exact (aFr.I aFr.rf 42 1 _ (by decide))
theorem F_X11_book_42_b13 {N : Nat} {rec13 : Int32 → aSt → Option (Int32 × aSt)} (hrec13 : ∀ (v1 : Int32) (S : aSt) {r : Int32 × aSt}, rec13 v1 S = (some r) → aFr W_X11_book_42 S r.2) (v1 : Int32) (S : aSt) {r : Int32 × aSt} (hf : X11_book_42_b13 N rec13 v1 S = (some r)) : aFr W_X11_book_42 S r.2 := by
  unfold X11_book_42_b13 at hf
  rcases aIfE hf with ⟨-, hf⟩ | ⟨-, hf⟩
  · exact aFr.tr aFr.rf (F_X11_book_42_b34 S hf)
  · obtain ⟨w5, ew6, hf⟩ := aBnE hf
    have hw5 : aFr W_X11_book_42 S w5 := aFr.tr aFr.rf ((F_X11_lay_42 N ((5 : Int32) * v1) S ew6).mono (by decide))
    exact aFr.tr hw5 (hrec13 (v1 + (1 : Int32)) w5 hf)
theorem F_X11_book_42_l13 {N : Nat} : ∀ (n : Nat) (v1 : Int32) (S : aSt) {r : Int32 × aSt}, X11_book_42_l13 N n v1 S = (some r) → aFr W_X11_book_42 S r.2
  | 0, _, _, _, h => nomatch (show (none : Option (Int32 × aSt)) = some _ from h)
  | n + 1, v1, S, _, h => F_X11_book_42_b13 (fun v1 S _ h => F_X11_book_42_l13 n v1 S h) v1 S h
theorem F_X11_book_42 (N : Nat) (S : aSt) {r : Int32 × aSt} (hf : X11_book_42 N S = (some r)) : aFr W_X11_book_42 S r.2 := by
  unfold X11_book_42 at hf
  obtain ⟨w1, ew2, hf⟩ := aBnE hf
  have hw1 : aFr W_X11_book_42 S w1.2 := aFr.tr aFr.rf ((F_X11_fault_42 N  S ew2).mono (by decide))
  rcases aIfE hf with ⟨-, hf⟩ | ⟨-, hf⟩
  · exact aFr.tr hw1 (F_X11_book_42_l13 N (0 : Int32) w1.2 hf)
  · have e9 := Option.some.inj hf; subst e9
    exact hw1
def W_X11_add_42 : aWr := ([(42, 23)], [], [50, 51, 52, 53, 54])
theorem F_X11_add_42_b148 {N : Nat} (v1 : Int32) (v2 : Int32) (v3 : Int32) (v4 : Int32) (v5 : Int32) (v6 : Int32) (S : aSt) {r : aSt} (hf : X11_add_42_b148 N v1 v2 v3 v4 v5 v6 S = (some r)) : aFr W_X11_add_42 S r := by
  unfold X11_add_42_b148 at hf
  obtain ⟨-, hf⟩ := aGdE hf
  obtain ⟨-, hf⟩ := aGdE hf
  obtain ⟨-, hf⟩ := aGdE hf
  obtain ⟨-, hf⟩ := aGdE hf
  obtain ⟨-, hf⟩ := aGdE hf
  have e9 := Option.some.inj hf; subst e9
  exact (aFr.I (aFr.A (aFr.A (aFr.A (aFr.A (aFr.A aFr.rf 50 _ (by decide)) 51 _ (by decide)) 52 _ (by decide)) 53 _ (by decide)) 54 _ (by decide)) 42 23 _ (by decide))
theorem F_X11_add_42_b12 {N : Nat} {rec12 : Int32 → Int32 → Int32 → Int32 → Int32 → Int32 → aSt → Option (aSt)} (hrec12 : ∀ (v1 : Int32) (v2 : Int32) (v3 : Int32) (v4 : Int32) (v5 : Int32) (v6 : Int32) (S : aSt) {r : aSt}, rec12 v1 v2 v3 v4 v5 v6 S = (some r) → aFr W_X11_add_42 S r) (v1 : Int32) (v2 : Int32) (v3 : Int32) (v4 : Int32) (v5 : Int32) (v6 : Int32) (S : aSt) {r : aSt} (hf : X11_add_42_b12 N rec12 v1 v2 v3 v4 v5 v6 S = (some r)) : aFr W_X11_add_42 S r := by
  unfold X11_add_42_b12 at hf
  rcases aIfE hf with ⟨-, hf⟩ | ⟨-, hf⟩
  · exact aFr.tr aFr.rf (F_X11_add_42_b148 v1 v2 v3 v4 v5 v6 S hf)
  · rcases aIfE hf with ⟨-, hf⟩ | ⟨-, hf⟩
    · exact aFr.tr aFr.rf (F_X11_add_42_b148 v1 v2 v3 v4 v5 v6 S hf)
    · obtain ⟨-, hf⟩ := aGdE hf
      rcases aIfE hf with ⟨-, hf⟩ | ⟨-, hf⟩
      · obtain ⟨-, hf⟩ := aGdE hf
        rcases aIfE hf with ⟨-, hf⟩ | ⟨-, hf⟩
        · obtain ⟨-, hf⟩ := aGdE hf
          rcases aIfE hf with ⟨-, hf⟩ | ⟨-, hf⟩
          · exact aFr.tr aFr.rf (F_X11_add_42_b148 v1 v2 v3 v4 v5 v6 S hf)
          · obtain ⟨-, hf⟩ := aGdE hf
            obtain ⟨-, hf⟩ := aGdE hf
            obtain ⟨-, hf⟩ := aGdE hf
            obtain ⟨-, hf⟩ := aGdE hf
            obtain ⟨-, hf⟩ := aGdE hf
            obtain ⟨-, hf⟩ := aGdE hf
            obtain ⟨-, hf⟩ := aGdE hf
            obtain ⟨-, hf⟩ := aGdE hf
            obtain ⟨-, hf⟩ := aGdE hf
            obtain ⟨-, hf⟩ := aGdE hf
            exact aFr.tr (aFr.A (aFr.A (aFr.A (aFr.A (aFr.A aFr.rf 50 _ (by decide)) 51 _ (by decide)) 52 _ (by decide)) 53 _ (by decide)) 54 _ (by decide)) (hrec12 v1 v2 v3 v4 v5 (v6 + ((-1) : Int32)) (aA (aA (aA (aA (aA S 50 (upd (S.2.2 50) v6.toNatClampNeg ((S.2.2 50) (v6 - (1 : Int32)).toNatClampNeg))) 51 (upd (S.2.2 51) v6.toNatClampNeg ((S.2.2 51) (v6 - (1 : Int32)).toNatClampNeg))) 52 (upd (S.2.2 52) v6.toNatClampNeg ((S.2.2 52) (v6 - (1 : Int32)).toNatClampNeg))) 53 (upd (S.2.2 53) v6.toNatClampNeg ((S.2.2 53) (v6 - (1 : Int32)).toNatClampNeg))) 54 (upd (S.2.2 54) v6.toNatClampNeg ((S.2.2 54) (v6 - (1 : Int32)).toNatClampNeg))) hf)
        · exact aFr.tr aFr.rf (F_X11_add_42_b148 v1 v2 v3 v4 v5 v6 S hf)
      · exact aFr.tr aFr.rf (F_X11_add_42_b148 v1 v2 v3 v4 v5 v6 S hf)
theorem F_X11_add_42_l12 {N : Nat} : ∀ (n : Nat) (v1 : Int32) (v2 : Int32) (v3 : Int32) (v4 : Int32) (v5 : Int32) (v6 : Int32) (S : aSt) {r : aSt}, X11_add_42_l12 N n v1 v2 v3 v4 v5 v6 S = (some r) → aFr W_X11_add_42 S r
  | 0, _, _, _, _, _, _, _, _, h => nomatch (show (none : Option (aSt)) = some _ from h)
  | n + 1, v1, v2, v3, v4, v5, v6, S, _, h => F_X11_add_42_b12 (fun v1 v2 v3 v4 v5 v6 S _ h => F_X11_add_42_l12 n v1 v2 v3 v4 v5 v6 S h) v1 v2 v3 v4 v5 v6 S h
theorem F_X11_add_42 (N : Nat) (a1 : Int32) (a2 : Int32) (a3 : Int32) (a4 : Int32) (a5 : Int32) (S : aSt) {r : aSt} (hf : X11_add_42 N a1 a2 a3 a4 a5 S = (some r)) : aFr W_X11_add_42 S r := by
  unfold X11_add_42 at hf
  rcases aIfE hf with ⟨-, hf⟩ | ⟨-, hf⟩
  · have e9 := Option.some.inj hf; subst e9
    exact aFr.rf
  · exact aFr.tr aFr.rf (F_X11_add_42_l12 N a1 a2 a3 a4 a5 (S.1 42 23) S hf)
def W_X11_layFigures_42 : aWr := ([(42, 23)], [], [50, 51, 52, 53, 54])
theorem F_X11_layFigures_42_b114 {N : Nat} {rec13 : Int32 → Int32 → Int32 → aSt → Option (aSt)} (hrec13 : ∀ (v1 : Int32) (v2 : Int32) (v3 : Int32) (S : aSt) {r : aSt}, rec13 v1 v2 v3 S = (some r) → aFr W_X11_layFigures_42 S r) (v1 : Int32) (v2 : Int32) (v3 : Int32) (S : aSt) {r : aSt} (hf : X11_layFigures_42_b114 N rec13 v1 v2 v3 S = (some r)) : aFr W_X11_layFigures_42 S r := by
  unfold X11_layFigures_42_b114 at hf
  exact aFr.tr aFr.rf (hrec13 v1 v2 (v3 + (1 : Int32)) S hf)
theorem F_X11_layFigures_42_b108 {N : Nat} {rec13 : Int32 → Int32 → Int32 → aSt → Option (aSt)} {rec45 : Int32 → Int32 → Int32 → Int32 → Int32 → aSt → Option (aSt)} (hrec13 : ∀ (v1 : Int32) (v2 : Int32) (v3 : Int32) (S : aSt) {r : aSt}, rec13 v1 v2 v3 S = (some r) → aFr W_X11_layFigures_42 S r) (hrec45 : ∀ (v1 : Int32) (v2 : Int32) (v3 : Int32) (v4 : Int32) (v5 : Int32) (S : aSt) {r : aSt}, rec45 v1 v2 v3 v4 v5 S = (some r) → aFr W_X11_layFigures_42 S r) (v1 : Int32) (v2 : Int32) (v3 : Int32) (v4 : Int32) (v5 : Int32) (S : aSt) {r : aSt} (hf : X11_layFigures_42_b108 N rec13 rec45 v1 v2 v3 v4 v5 S = (some r)) : aFr W_X11_layFigures_42 S r := by
  unfold X11_layFigures_42_b108 at hf
  exact aFr.tr aFr.rf (hrec45 v1 v2 v3 v4 (v5 + (1 : Int32)) S hf)
theorem F_X11_layFigures_42_b45 {N : Nat} {rec13 : Int32 → Int32 → Int32 → aSt → Option (aSt)} {rec45 : Int32 → Int32 → Int32 → Int32 → Int32 → aSt → Option (aSt)} (hrec13 : ∀ (v1 : Int32) (v2 : Int32) (v3 : Int32) (S : aSt) {r : aSt}, rec13 v1 v2 v3 S = (some r) → aFr W_X11_layFigures_42 S r) (hrec45 : ∀ (v1 : Int32) (v2 : Int32) (v3 : Int32) (v4 : Int32) (v5 : Int32) (S : aSt) {r : aSt}, rec45 v1 v2 v3 v4 v5 S = (some r) → aFr W_X11_layFigures_42 S r) (v1 : Int32) (v2 : Int32) (v3 : Int32) (v4 : Int32) (v5 : Int32) (S : aSt) {r : aSt} (hf : X11_layFigures_42_b45 N rec13 rec45 v1 v2 v3 v4 v5 S = (some r)) : aFr W_X11_layFigures_42 S r := by
  unfold X11_layFigures_42_b45 at hf
  rcases aIfE hf with ⟨-, hf⟩ | ⟨-, hf⟩
  · exact aFr.tr aFr.rf (F_X11_layFigures_42_b114 hrec13 v1 v2 v3 S hf)
  · rcases aIfE hf with ⟨-, hf⟩ | ⟨-, hf⟩
    · exact aFr.tr aFr.rf (F_X11_layFigures_42_b108 hrec13 hrec45 v1 v2 v3 v4 v5 S hf)
    · obtain ⟨w12, ew13, hf⟩ := aBnE hf
      obtain ⟨w14, ew15, hf⟩ := aBnE hf
      obtain ⟨w16, ew17, hf⟩ := aBnE hf
      obtain ⟨-, hf⟩ := aGdE hf
      obtain ⟨w19, ew20, hf⟩ := aBnE hf
      have hw19 : aFr W_X11_layFigures_42 S w19 := aFr.tr aFr.rf ((F_X11_add_42 N (1 : Int32) v1 (v2 + ((v5 - v4) * w12)) w14 (w16 * ((S.2.2 48) (((10 : Int32) * v5) + v4).toNatClampNeg)) S ew20).mono (by decide))
      exact aFr.tr hw19 (F_X11_layFigures_42_b108 hrec13 hrec45 v1 v2 v3 v4 v5 w19 hf)
theorem F_X11_layFigures_42_l45 {N : Nat} {rec13 : Int32 → Int32 → Int32 → aSt → Option (aSt)} (hrec13 : ∀ (v1 : Int32) (v2 : Int32) (v3 : Int32) (S : aSt) {r : aSt}, rec13 v1 v2 v3 S = (some r) → aFr W_X11_layFigures_42 S r) : ∀ (n : Nat) (v1 : Int32) (v2 : Int32) (v3 : Int32) (v4 : Int32) (v5 : Int32) (S : aSt) {r : aSt}, X11_layFigures_42_l45 N rec13 n v1 v2 v3 v4 v5 S = (some r) → aFr W_X11_layFigures_42 S r
  | 0, _, _, _, _, _, _, _, h => nomatch (show (none : Option (aSt)) = some _ from h)
  | n + 1, v1, v2, v3, v4, v5, S, _, h => F_X11_layFigures_42_b45 hrec13 (fun v1 v2 v3 v4 v5 S _ h => F_X11_layFigures_42_l45 hrec13 n v1 v2 v3 v4 v5 S h) v1 v2 v3 v4 v5 S h
theorem F_X11_layFigures_42_b43 {N : Nat} {rec13 : Int32 → Int32 → Int32 → aSt → Option (aSt)} (hrec13 : ∀ (v1 : Int32) (v2 : Int32) (v3 : Int32) (S : aSt) {r : aSt}, rec13 v1 v2 v3 S = (some r) → aFr W_X11_layFigures_42 S r) (v1 : Int32) (v2 : Int32) (v3 : Int32) (v4 : Int32) (s0 : Int32) (S : aSt) {r : aSt} (hf : X11_layFigures_42_b43 N rec13 v1 v2 v3 v4 s0 S = (some r)) : aFr W_X11_layFigures_42 S r := by
  unfold X11_layFigures_42_b43 at hf
  exact aFr.tr aFr.rf (F_X11_layFigures_42_l45 hrec13 N v1 v2 v3 v4 s0 S hf)
theorem F_X11_layFigures_42_b13 {N : Nat} {rec13 : Int32 → Int32 → Int32 → aSt → Option (aSt)} (hrec13 : ∀ (v1 : Int32) (v2 : Int32) (v3 : Int32) (S : aSt) {r : aSt}, rec13 v1 v2 v3 S = (some r) → aFr W_X11_layFigures_42 S r) (v1 : Int32) (v2 : Int32) (v3 : Int32) (S : aSt) {r : aSt} (hf : X11_layFigures_42_b13 N rec13 v1 v2 v3 S = (some r)) : aFr W_X11_layFigures_42 S r := by
  unfold X11_layFigures_42_b13 at hf
  obtain ⟨w2, ew3, hf⟩ := aBnE hf
  rcases aIfE hf with ⟨-, hf⟩ | ⟨-, hf⟩
  · have e9 := Option.some.inj hf; subst e9
    exact aFr.rf
  · obtain ⟨w5, ew6, hf⟩ := aBnE hf
    obtain ⟨w7, ew8, hf⟩ := aBnE hf
    rcases aIfE hf with ⟨-, hf⟩ | ⟨-, hf⟩
    · exact aFr.tr aFr.rf (F_X11_layFigures_42_b43 hrec13 v1 v2 v3 w5 (1 : Int32) S hf)
    · exact aFr.tr aFr.rf (F_X11_layFigures_42_b43 hrec13 v1 v2 v3 w5 (0 : Int32) S hf)
theorem F_X11_layFigures_42_l13 {N : Nat} : ∀ (n : Nat) (v1 : Int32) (v2 : Int32) (v3 : Int32) (S : aSt) {r : aSt}, X11_layFigures_42_l13 N n v1 v2 v3 S = (some r) → aFr W_X11_layFigures_42 S r
  | 0, _, _, _, _, _, h => nomatch (show (none : Option (aSt)) = some _ from h)
  | n + 1, v1, v2, v3, S, _, h => F_X11_layFigures_42_b13 (fun v1 v2 v3 S _ h => F_X11_layFigures_42_l13 n v1 v2 v3 S h) v1 v2 v3 S h
theorem F_X11_layFigures_42 (N : Nat) (a1 : Int32) (S : aSt) {r : aSt} (hf : X11_layFigures_42 N a1 S = (some r)) : aFr W_X11_layFigures_42 S r := by
  unfold X11_layFigures_42 at hf
  obtain ⟨-, hf⟩ := aGdE hf
  exact aFr.tr aFr.rf (F_X11_layFigures_42_l13 N a1 ((S.2.2 45) (((5 : Int32) * a1) + (1 : Int32)).toNatClampNeg) (0 : Int32) S hf)
def W_X11_layKind_42 : aWr := ([(42, 23)], [], [50, 51, 52, 53, 54])
theorem F_X11_layKind_42_b247 {N : Nat} (s0 : Int32) (s1 : Int32) (s2 : Int32) (s3 : Int32) (s4 : Int32) (S : aSt) {r : aSt} (hf : X11_layKind_42_b247 N s0 s1 s2 s3 s4 S = (some r)) : aFr W_X11_layKind_42 S r := by
  unfold X11_layKind_42_b247 at hf
  obtain ⟨w8, ew9, hf⟩ := aBnE hf
  have hw8 : aFr W_X11_layKind_42 S w8 := aFr.tr aFr.rf ((F_X11_add_42 N s4 s3 s2 s1 s0 S ew9).mono (by decide))
  have e9 := Option.some.inj hf; subst e9
  exact hw8
theorem F_X11_layKind_42_b93 {N : Nat} {rec47 : Int32 → Int32 → Int32 → aSt → Option (aSt)} (hrec47 : ∀ (v2 : Int32) (v3 : Int32) (v4 : Int32) (S : aSt) {r : aSt}, rec47 v2 v3 v4 S = (some r) → aFr W_X11_layKind_42 S r) (v2 : Int32) (v3 : Int32) (v4 : Int32) (s0 : Int32) (s1 : Int32) (s2 : Int32) (s3 : Int32) (s4 : Int32) (S : aSt) {r : aSt} (hf : X11_layKind_42_b93 N rec47 v2 v3 v4 s0 s1 s2 s3 s4 S = (some r)) : aFr W_X11_layKind_42 S r := by
  unfold X11_layKind_42_b93 at hf
  obtain ⟨w23, ew24, hf⟩ := aBnE hf
  have hw23 : aFr W_X11_layKind_42 S w23 := aFr.tr aFr.rf ((F_X11_add_42 N s4 s3 s2 s1 s0 S ew24).mono (by decide))
  exact aFr.tr hw23 (hrec47 v2 v3 (v4 + (1 : Int32)) w23 hf)
theorem F_X11_layKind_42_b47 {N : Nat} {rec47 : Int32 → Int32 → Int32 → aSt → Option (aSt)} (hrec47 : ∀ (v2 : Int32) (v3 : Int32) (v4 : Int32) (S : aSt) {r : aSt}, rec47 v2 v3 v4 S = (some r) → aFr W_X11_layKind_42 S r) (v2 : Int32) (v3 : Int32) (v4 : Int32) (S : aSt) {r : aSt} (hf : X11_layKind_42_b47 N rec47 v2 v3 v4 S = (some r)) : aFr W_X11_layKind_42 S r := by
  unfold X11_layKind_42_b47 at hf
  obtain ⟨w13, ew14, hf⟩ := aBnE hf
  rcases aIfE hf with ⟨-, hf⟩ | ⟨-, hf⟩
  · have e9 := Option.some.inj hf; subst e9
    exact aFr.rf
  · obtain ⟨w16, ew17, hf⟩ := aBnE hf
    obtain ⟨w18, ew19, hf⟩ := aBnE hf
    rcases aIfE hf with ⟨-, hf⟩ | ⟨-, hf⟩
    · exact aFr.tr aFr.rf (F_X11_layKind_42_b93 hrec47 v2 v3 v4 (0 : Int32) w18 w16 v2 (0 : Int32) S hf)
    · obtain ⟨w21, ew22, hf⟩ := aBnE hf
      exact aFr.tr aFr.rf (F_X11_layKind_42_b93 hrec47 v2 v3 v4 w21 w18 w16 v2 (0 : Int32) S hf)
theorem F_X11_layKind_42_l47 {N : Nat} : ∀ (n : Nat) (v2 : Int32) (v3 : Int32) (v4 : Int32) (S : aSt) {r : aSt}, X11_layKind_42_l47 N n v2 v3 v4 S = (some r) → aFr W_X11_layKind_42 S r
  | 0, _, _, _, _, _, h => nomatch (show (none : Option (aSt)) = some _ from h)
  | n + 1, v2, v3, v4, S, _, h => F_X11_layKind_42_b47 (fun v2 v3 v4 S _ h => F_X11_layKind_42_l47 n v2 v3 v4 S h) v2 v3 v4 S h
theorem F_X11_layKind_42_b180 {N : Nat} (s0 : Int32) (s1 : Int32) (s2 : Int32) (s3 : Int32) (s4 : Int32) (S : aSt) {r : aSt} (hf : X11_layKind_42_b180 N s0 s1 s2 s3 s4 S = (some r)) : aFr W_X11_layKind_42 S r := by
  unfold X11_layKind_42_b180 at hf
  obtain ⟨w37, ew38, hf⟩ := aBnE hf
  have hw37 : aFr W_X11_layKind_42 S w37 := aFr.tr aFr.rf ((F_X11_add_42 N s4 s3 s2 s1 s0 S ew38).mono (by decide))
  have e9 := Option.some.inj hf; subst e9
  exact hw37
theorem F_X11_layKind_42_b142 {N : Nat} (v2 : Int32) (v3 : Int32) (s0 : Int32) (s1 : Int32) (s2 : Int32) (s3 : Int32) (s4 : Int32) (S : aSt) {r : aSt} (hf : X11_layKind_42_b142 N v2 v3 s0 s1 s2 s3 s4 S = (some r)) : aFr W_X11_layKind_42 S r := by
  unfold X11_layKind_42_b142 at hf
  obtain ⟨w32, ew33, hf⟩ := aBnE hf
  have hw32 : aFr W_X11_layKind_42 S w32 := aFr.tr aFr.rf ((F_X11_add_42 N s4 s3 s2 s1 s0 S ew33).mono (by decide))
  obtain ⟨w34, ew35, hf⟩ := aBnE hf
  rcases aIfE hf with ⟨-, hf⟩ | ⟨-, hf⟩
  · exact aFr.tr hw32 (F_X11_layKind_42_b180 (0 : Int32) w34 ((10 : Int32) * v3) v2 (2 : Int32) w32 hf)
  · obtain ⟨w39, ew40, hf⟩ := aBnE hf
    exact aFr.tr hw32 (F_X11_layKind_42_b180 w39 w34 ((10 : Int32) * v3) v2 (2 : Int32) w32 hf)
theorem F_X11_layKind_42_b209 {N : Nat} (v2 : Int32) (s0 : Int32) (s1 : Int32) (s2 : Int32) (s3 : Int32) (S : aSt) {r : aSt} (hf : X11_layKind_42_b209 N v2 s0 s1 s2 s3 S = (some r)) : aFr W_X11_layKind_42 S r := by
  unfold X11_layKind_42_b209 at hf
  obtain ⟨w46, ew47, hf⟩ := aBnE hf
  obtain ⟨w48, ew49, hf⟩ := aBnE hf
  have hw48 : aFr W_X11_layKind_42 S w48 := aFr.tr aFr.rf ((F_X11_add_42 N s3 s2 s1 s0 w46 S ew49).mono (by decide))
  have e9 := Option.some.inj hf; subst e9
  exact hw48
theorem F_X11_layKind_42 (N : Nat) (a1 : Int32) (a2 : Int32) (S : aSt) {r : aSt} (hf : X11_layKind_42 N a1 a2 S = (some r)) : aFr W_X11_layKind_42 S r := by
  unfold X11_layKind_42 at hf
  obtain ⟨-, hf⟩ := aGdE hf
  rcases aTswE hf with ⟨-, hf⟩ | ⟨-, hf⟩
  · obtain ⟨w3, ew4, hf⟩ := aBnE hf
    obtain ⟨w5, ew6, hf⟩ := aBnE hf
    rcases aIfE hf with ⟨-, hf⟩ | ⟨-, hf⟩
    · exact aFr.tr aFr.rf (F_X11_layKind_42_b247 (0 : Int32) w3 (0 : Int32) a2 (4 : Int32) S hf)
    · obtain ⟨w10, ew11, hf⟩ := aBnE hf
      exact aFr.tr aFr.rf (F_X11_layKind_42_b247 w10 w3 (0 : Int32) a2 (4 : Int32) S hf)
  · rcases aIfE hf with ⟨-, hf⟩ | ⟨-, hf⟩
    · exact aFr.tr aFr.rf (F_X11_layKind_42_l47 N a2 ((S.2.2 45) (((5 : Int32) * a2) + (1 : Int32)).toNatClampNeg) (0 : Int32) S hf)
    · rcases aIfE hf with ⟨-, hf⟩ | ⟨-, hf⟩
      · obtain ⟨w26, ew27, hf⟩ := aBnE hf
        have hw26 : aFr W_X11_layKind_42 S w26 := aFr.tr aFr.rf ((F_X11_layFigures_42 N a2 S ew27).mono (by decide))
        have e9 := Option.some.inj hf; subst e9
        exact hw26
      · rcases aIfE hf with ⟨-, hf⟩ | ⟨-, hf⟩
        · obtain ⟨w29, ew30, hf⟩ := aBnE hf
          rcases aIfE hf with ⟨-, hf⟩ | ⟨-, hf⟩
          · obtain ⟨w41, ew42, hf⟩ := aBnE hf
            exact aFr.tr aFr.rf (F_X11_layKind_42_b142 a2 ((S.2.2 45) (((5 : Int32) * a2) + (1 : Int32)).toNatClampNeg) w41 w29 (((S.2.2 45) (((5 : Int32) * a2) + (1 : Int32)).toNatClampNeg) / (10 : Int32)) a2 (2 : Int32) S hf)
          · exact aFr.tr aFr.rf (F_X11_layKind_42_b142 a2 ((S.2.2 45) (((5 : Int32) * a2) + (1 : Int32)).toNatClampNeg) (0 : Int32) w29 (((S.2.2 45) (((5 : Int32) * a2) + (1 : Int32)).toNatClampNeg) / (10 : Int32)) a2 (2 : Int32) S hf)
        · rcases aIfE hf with ⟨-, hf⟩ | ⟨-, hf⟩
          · obtain ⟨-, hf⟩ := aGdE hf
            rcases aIfE hf with ⟨-, hf⟩ | ⟨-, hf⟩
            · exact aFr.tr aFr.rf (F_X11_layKind_42_b209 a2 (((-2) : Int32) * ((S.2.2 45) (((5 : Int32) * a2) + (1 : Int32)).toNatClampNeg)) ((S.2.2 45) (((5 : Int32) * a2) + (1 : Int32)).toNatClampNeg) a2 (3 : Int32) S hf)
            · exact aFr.tr aFr.rf (F_X11_layKind_42_b209 a2 ((2 : Int32) * ((S.2.2 45) (((5 : Int32) * a2) + (1 : Int32)).toNatClampNeg)) ((S.2.2 45) (((5 : Int32) * a2) + (1 : Int32)).toNatClampNeg) a2 (3 : Int32) S hf)
          · cases hf
def W_X11_laySlips_42 : aWr := ([(42, 23)], [], [50, 51, 52, 53, 54])
theorem F_X11_laySlips_42_b146 {N : Nat} {rec85 : Int32 → aSt → Option (aSt)} (hrec85 : ∀ (v2 : Int32) (S : aSt) {r : aSt}, rec85 v2 S = (some r) → aFr W_X11_laySlips_42 S r) (v2 : Int32) (S : aSt) {r : aSt} (hf : X11_laySlips_42_b146 N rec85 v2 S = (some r)) : aFr W_X11_laySlips_42 S r := by
  unfold X11_laySlips_42_b146 at hf
  exact aFr.tr aFr.rf (hrec85 (v2 + (1 : Int32)) S hf)
theorem F_X11_laySlips_42_b93 {N : Nat} {rec85 : Int32 → aSt → Option (aSt)} {rec93 : Int32 → Int32 → aSt → Option (aSt)} (hrec85 : ∀ (v2 : Int32) (S : aSt) {r : aSt}, rec85 v2 S = (some r) → aFr W_X11_laySlips_42 S r) (hrec93 : ∀ (v2 : Int32) (v3 : Int32) (S : aSt) {r : aSt}, rec93 v2 v3 S = (some r) → aFr W_X11_laySlips_42 S r) (v2 : Int32) (v3 : Int32) (S : aSt) {r : aSt} (hf : X11_laySlips_42_b93 N rec85 rec93 v2 v3 S = (some r)) : aFr W_X11_laySlips_42 S r := by
  unfold X11_laySlips_42_b93 at hf
  rcases aIfE hf with ⟨-, hf⟩ | ⟨-, hf⟩
  · exact aFr.tr aFr.rf (F_X11_laySlips_42_b146 hrec85 v2 S hf)
  · obtain ⟨w7, ew8, hf⟩ := aBnE hf
    rcases aIfE hf with ⟨-, hf⟩ | ⟨-, hf⟩
    · exact aFr.tr aFr.rf (F_X11_laySlips_42_b146 hrec85 v2 S hf)
    · obtain ⟨w10, ew11, hf⟩ := aBnE hf
      obtain ⟨w12, ew13, hf⟩ := aBnE hf
      have hw12 : aFr W_X11_laySlips_42 S w12 := aFr.tr aFr.rf ((F_X11_add_42 N (6 : Int32) v2 v3 (-w10) (S.1 42 11) S ew13).mono (by decide))
      obtain ⟨w14, ew15, hf⟩ := aBnE hf
      obtain ⟨w16, ew17, hf⟩ := aBnE hf
      have hw16 : aFr W_X11_laySlips_42 S w16 := aFr.tr hw12 ((F_X11_add_42 N (6 : Int32) v2 v3 w14 (w12.1 42 11) w12 ew17).mono (by decide))
      exact aFr.tr hw16 (hrec93 v2 (v3 + (1 : Int32)) w16 hf)
theorem F_X11_laySlips_42_l93 {N : Nat} {rec85 : Int32 → aSt → Option (aSt)} (hrec85 : ∀ (v2 : Int32) (S : aSt) {r : aSt}, rec85 v2 S = (some r) → aFr W_X11_laySlips_42 S r) : ∀ (n : Nat) (v2 : Int32) (v3 : Int32) (S : aSt) {r : aSt}, X11_laySlips_42_l93 N rec85 n v2 v3 S = (some r) → aFr W_X11_laySlips_42 S r
  | 0, _, _, _, _, h => nomatch (show (none : Option (aSt)) = some _ from h)
  | n + 1, v2, v3, S, _, h => F_X11_laySlips_42_b93 hrec85 (fun v2 v3 S _ h => F_X11_laySlips_42_l93 hrec85 n v2 v3 S h) v2 v3 S h
theorem F_X11_laySlips_42_b85 {N : Nat} {rec85 : Int32 → aSt → Option (aSt)} (hrec85 : ∀ (v2 : Int32) (S : aSt) {r : aSt}, rec85 v2 S = (some r) → aFr W_X11_laySlips_42 S r) (v2 : Int32) (S : aSt) {r : aSt} (hf : X11_laySlips_42_b85 N rec85 v2 S = (some r)) : aFr W_X11_laySlips_42 S r := by
  unfold X11_laySlips_42_b85 at hf
  rcases aIfE hf with ⟨-, hf⟩ | ⟨-, hf⟩
  · have e9 := Option.some.inj hf; subst e9
    exact aFr.rf
  · exact aFr.tr aFr.rf (F_X11_laySlips_42_l93 hrec85 N v2 (1 : Int32) S hf)
theorem F_X11_laySlips_42_l85 {N : Nat} : ∀ (n : Nat) (v2 : Int32) (S : aSt) {r : aSt}, X11_laySlips_42_l85 N n v2 S = (some r) → aFr W_X11_laySlips_42 S r
  | 0, _, _, _, h => nomatch (show (none : Option (aSt)) = some _ from h)
  | n + 1, v2, S, _, h => F_X11_laySlips_42_b85 (fun v2 S _ h => F_X11_laySlips_42_l85 n v2 S h) v2 S h
theorem F_X11_laySlips_42_b83 {N : Nat} (S : aSt) {r : aSt} (hf : X11_laySlips_42_b83 N S = (some r)) : aFr W_X11_laySlips_42 S r := by
  unfold X11_laySlips_42_b83 at hf
  exact aFr.tr aFr.rf (F_X11_laySlips_42_l85 N (0 : Int32) S hf)
theorem F_X11_laySlips_42_b70 {N : Nat} (v1 : Int32) (s0 : Int32) (s1 : Int32) (S : aSt) {r : aSt} (hf : X11_laySlips_42_b70 N v1 s0 s1 S = (some r)) : aFr W_X11_laySlips_42 S r := by
  unfold X11_laySlips_42_b70 at hf
  obtain ⟨w22, ew23, hf⟩ := aLetE hf
  obtain ⟨w24, ew25, hf⟩ := aBnE hf
  have hw24 : aFr W_X11_laySlips_42 S w24 := aFr.tr aFr.rf ((F_X11_add_42 N s1 s0 w22 (-v1) (S.1 42 10) S ew25).mono (by decide))
  exact aFr.tr hw24 (F_X11_laySlips_42_b83 w24 hf)
theorem F_X11_laySlips_42_b40 {N : Nat} (S : aSt) {r : aSt} (hf : X11_laySlips_42_b40 N S = (some r)) : aFr W_X11_laySlips_42 S r := by
  unfold X11_laySlips_42_b40 at hf
  obtain ⟨w2, ew3, hf⟩ := aBnE hf
  rcases aIfE hf with ⟨-, hf⟩ | ⟨-, hf⟩
  · exact aFr.tr aFr.rf (F_X11_laySlips_42_b83 S hf)
  · obtain ⟨w18, ew19, hf⟩ := aLetE hf
    rcases aIfE hf with ⟨-, hf⟩ | ⟨-, hf⟩
    · exact aFr.tr aFr.rf (F_X11_laySlips_42_b83 S hf)
    · rcases aIfE hf with ⟨-, hf⟩ | ⟨-, hf⟩
      · exact aFr.tr aFr.rf (F_X11_laySlips_42_b70 w2 (0 : Int32) (5 : Int32) S hf)
      · exact aFr.tr aFr.rf (F_X11_laySlips_42_b70 w2 (1 : Int32) (5 : Int32) S hf)
theorem F_X11_laySlips_42_b34 {N : Nat} {rec7 : Int32 → aSt → Option (aSt)} (hrec7 : ∀ (v1 : Int32) (S : aSt) {r : aSt}, rec7 v1 S = (some r) → aFr W_X11_laySlips_42 S r) (v1 : Int32) (S : aSt) {r : aSt} (hf : X11_laySlips_42_b34 N rec7 v1 S = (some r)) : aFr W_X11_laySlips_42 S r := by
  unfold X11_laySlips_42_b34 at hf
  exact aFr.tr aFr.rf (hrec7 (v1 + (1 : Int32)) S hf)
theorem F_X11_laySlips_42_b14 {N : Nat} {rec7 : Int32 → aSt → Option (aSt)} {rec14 : Int32 → Int32 → aSt → Option (aSt)} (hrec7 : ∀ (v1 : Int32) (S : aSt) {r : aSt}, rec7 v1 S = (some r) → aFr W_X11_laySlips_42 S r) (hrec14 : ∀ (v1 : Int32) (v2 : Int32) (S : aSt) {r : aSt}, rec14 v1 v2 S = (some r) → aFr W_X11_laySlips_42 S r) (v1 : Int32) (v2 : Int32) (S : aSt) {r : aSt} (hf : X11_laySlips_42_b14 N rec7 rec14 v1 v2 S = (some r)) : aFr W_X11_laySlips_42 S r := by
  unfold X11_laySlips_42_b14 at hf
  rcases aIfE hf with ⟨-, hf⟩ | ⟨-, hf⟩
  · exact aFr.tr aFr.rf (F_X11_laySlips_42_b34 hrec7 v1 S hf)
  · obtain ⟨w27, ew28, hf⟩ := aBnE hf
    have hw27 : aFr W_X11_laySlips_42 S w27 := aFr.tr aFr.rf ((F_X11_layKind_42 N v1 v2 S ew28).mono (by decide))
    exact aFr.tr hw27 (hrec14 v1 (v2 + (1 : Int32)) w27 hf)
theorem F_X11_laySlips_42_l14 {N : Nat} {rec7 : Int32 → aSt → Option (aSt)} (hrec7 : ∀ (v1 : Int32) (S : aSt) {r : aSt}, rec7 v1 S = (some r) → aFr W_X11_laySlips_42 S r) : ∀ (n : Nat) (v1 : Int32) (v2 : Int32) (S : aSt) {r : aSt}, X11_laySlips_42_l14 N rec7 n v1 v2 S = (some r) → aFr W_X11_laySlips_42 S r
  | 0, _, _, _, _, h => nomatch (show (none : Option (aSt)) = some _ from h)
  | n + 1, v1, v2, S, _, h => F_X11_laySlips_42_b14 hrec7 (fun v1 v2 S _ h => F_X11_laySlips_42_l14 hrec7 n v1 v2 S h) v1 v2 S h
theorem F_X11_laySlips_42_b7 {N : Nat} {rec7 : Int32 → aSt → Option (aSt)} (hrec7 : ∀ (v1 : Int32) (S : aSt) {r : aSt}, rec7 v1 S = (some r) → aFr W_X11_laySlips_42 S r) (v1 : Int32) (S : aSt) {r : aSt} (hf : X11_laySlips_42_b7 N rec7 v1 S = (some r)) : aFr W_X11_laySlips_42 S r := by
  unfold X11_laySlips_42_b7 at hf
  rcases aIfE hf with ⟨-, hf⟩ | ⟨-, hf⟩
  · exact aFr.tr aFr.rf (F_X11_laySlips_42_b40 S hf)
  · exact aFr.tr aFr.rf (F_X11_laySlips_42_l14 hrec7 N v1 (0 : Int32) S hf)
theorem F_X11_laySlips_42_l7 {N : Nat} : ∀ (n : Nat) (v1 : Int32) (S : aSt) {r : aSt}, X11_laySlips_42_l7 N n v1 S = (some r) → aFr W_X11_laySlips_42 S r
  | 0, _, _, _, h => nomatch (show (none : Option (aSt)) = some _ from h)
  | n + 1, v1, S, _, h => F_X11_laySlips_42_b7 (fun v1 S _ h => F_X11_laySlips_42_l7 n v1 S h) v1 S h
theorem F_X11_laySlips_42 (N : Nat) (S : aSt) {r : aSt} (hf : X11_laySlips_42 N S = (some r)) : aFr W_X11_laySlips_42 S r := by
  unfold X11_laySlips_42 at hf
  exact aFr.tr (aFr.I aFr.rf 42 23 _ (by decide)) (F_X11_laySlips_42_l7 N (0 : Int32) (aI S 42 23 (0 : Int32)) hf)
def W_X11_layOnes_42 : aWr := ([(42, 23), (42, 25)], [], [50, 51, 52, 53, 54, 55])
theorem F_X11_layOnes_42_b72 {N : Nat} {rec17 : Int32 → Int32 → Int32 → aSt → Option (aSt)} (hrec17 : ∀ (v1 : Int32) (v2 : Int32) (v3 : Int32) (S : aSt) {r : aSt}, rec17 v1 v2 v3 S = (some r) → aFr W_X11_layOnes_42 S r) (v1 : Int32) (v2 : Int32) (v3 : Int32) (S : aSt) {r : aSt} (hf : X11_layOnes_42_b72 N rec17 v1 v2 v3 S = (some r)) : aFr W_X11_layOnes_42 S r := by
  unfold X11_layOnes_42_b72 at hf
  exact aFr.tr aFr.rf (hrec17 v1 v2 (v3 + (1 : Int32)) S hf)
theorem F_X11_layOnes_42_b52 {N : Nat} {rec17 : Int32 → Int32 → Int32 → aSt → Option (aSt)} (hrec17 : ∀ (v1 : Int32) (v2 : Int32) (v3 : Int32) (S : aSt) {r : aSt}, rec17 v1 v2 v3 S = (some r) → aFr W_X11_layOnes_42 S r) (v1 : Int32) (v2 : Int32) (v3 : Int32) (S : aSt) {r : aSt} (hf : X11_layOnes_42_b52 N rec17 v1 v2 v3 S = (some r)) : aFr W_X11_layOnes_42 S r := by
  unfold X11_layOnes_42_b52 at hf
  obtain ⟨-, hf⟩ := aGdE hf
  exact aFr.tr (aFr.I (aFr.A aFr.rf 55 _ (by decide)) 42 25 _ (by decide)) (F_X11_layOnes_42_b72 hrec17 v1 v2 v3 (aI (aA S 55 (upd (S.2.2 55) (S.1 42 25).toNatClampNeg v3)) 42 25 ((S.1 42 25) + (1 : Int32))) hf)
theorem F_X11_layOnes_42_b17 {N : Nat} {rec17 : Int32 → Int32 → Int32 → aSt → Option (aSt)} (hrec17 : ∀ (v1 : Int32) (v2 : Int32) (v3 : Int32) (S : aSt) {r : aSt}, rec17 v1 v2 v3 S = (some r) → aFr W_X11_layOnes_42 S r) (v1 : Int32) (v2 : Int32) (v3 : Int32) (S : aSt) {r : aSt} (hf : X11_layOnes_42_b17 N rec17 v1 v2 v3 S = (some r)) : aFr W_X11_layOnes_42 S r := by
  unfold X11_layOnes_42_b17 at hf
  rcases aIfE hf with ⟨-, hf⟩ | ⟨-, hf⟩
  · have e9 := Option.some.inj hf; subst e9
    exact aFr.rf
  · rcases aIfE hf with ⟨-, hf⟩ | ⟨-, hf⟩
    · exact aFr.tr aFr.rf (F_X11_layOnes_42_b72 hrec17 v1 v2 v3 S hf)
    · obtain ⟨-, hf⟩ := aGdE hf
      rcases aIfE hf with ⟨-, hf⟩ | ⟨-, hf⟩
      · rcases aIfE hf with ⟨-, hf⟩ | ⟨-, hf⟩
        · exact aFr.tr aFr.rf (F_X11_layOnes_42_b52 hrec17 v1 v2 v3 S hf)
        · obtain ⟨w11, ew12, hf⟩ := aBnE hf
          rcases aIfE hf with ⟨-, hf⟩ | ⟨-, hf⟩
          · exact aFr.tr aFr.rf (F_X11_layOnes_42_b72 hrec17 v1 v2 v3 S hf)
          · exact aFr.tr aFr.rf (F_X11_layOnes_42_b52 hrec17 v1 v2 v3 S hf)
      · exact aFr.tr aFr.rf (F_X11_layOnes_42_b72 hrec17 v1 v2 v3 S hf)
theorem F_X11_layOnes_42_l17 {N : Nat} : ∀ (n : Nat) (v1 : Int32) (v2 : Int32) (v3 : Int32) (S : aSt) {r : aSt}, X11_layOnes_42_l17 N n v1 v2 v3 S = (some r) → aFr W_X11_layOnes_42 S r
  | 0, _, _, _, _, _, h => nomatch (show (none : Option (aSt)) = some _ from h)
  | n + 1, v1, v2, v3, S, _, h => F_X11_layOnes_42_b17 (fun v1 v2 v3 S _ h => F_X11_layOnes_42_l17 n v1 v2 v3 S h) v1 v2 v3 S h
theorem F_X11_layOnes_42 (N : Nat) (a1 : Int32) (S : aSt) {r : aSt} (hf : X11_layOnes_42 N a1 S = (some r)) : aFr W_X11_layOnes_42 S r := by
  unfold X11_layOnes_42 at hf
  obtain ⟨w1, ew2, hf⟩ := aBnE hf
  have hw1 : aFr W_X11_layOnes_42 S w1 := aFr.tr aFr.rf ((F_X11_laySlips_42 N  S ew2).mono (by decide))
  obtain ⟨w3, ew4, hf⟩ := aBnE hf
  exact aFr.tr (aFr.I hw1 42 25 _ (by decide)) (F_X11_layOnes_42_l17 N a1 w3 (0 : Int32) (aI w1 42 25 (0 : Int32)) hf)
def W_X11_layPairs_42 : aWr := ([(42, 28), (42, 29)], [(42, 26), (42, 27)], [])
theorem F_X11_layPairs_42_b147 {N : Nat} {rec25 : Int32 → Int64 → Int32 → aSt → Option (aSt)} (hrec25 : ∀ (v1 : Int32) (v2 : Int64) (v4 : Int32) (S : aSt) {r : aSt}, rec25 v1 v2 v4 S = (some r) → aFr W_X11_layPairs_42 S r) (v1 : Int32) (v2 : Int64) (v4 : Int32) (S : aSt) {r : aSt} (hf : X11_layPairs_42_b147 N rec25 v1 v2 v4 S = (some r)) : aFr W_X11_layPairs_42 S r := by
  unfold X11_layPairs_42_b147 at hf
  exact aFr.tr aFr.rf (hrec25 v1 v2 (v4 + (1 : Int32)) S hf)
theorem F_X11_layPairs_42_b141 {N : Nat} {rec25 : Int32 → Int64 → Int32 → aSt → Option (aSt)} {rec40 : Int32 → Int64 → Int32 → Int32 → aSt → Option (aSt)} (hrec25 : ∀ (v1 : Int32) (v2 : Int64) (v4 : Int32) (S : aSt) {r : aSt}, rec25 v1 v2 v4 S = (some r) → aFr W_X11_layPairs_42 S r) (hrec40 : ∀ (v1 : Int32) (v2 : Int64) (v4 : Int32) (v5 : Int32) (S : aSt) {r : aSt}, rec40 v1 v2 v4 v5 S = (some r) → aFr W_X11_layPairs_42 S r) (v1 : Int32) (v2 : Int64) (v4 : Int32) (v5 : Int32) (S : aSt) {r : aSt} (hf : X11_layPairs_42_b141 N rec25 rec40 v1 v2 v4 v5 S = (some r)) : aFr W_X11_layPairs_42 S r := by
  unfold X11_layPairs_42_b141 at hf
  exact aFr.tr aFr.rf (hrec40 v1 v2 v4 (v5 + (1 : Int32)) S hf)
theorem F_X11_layPairs_42_b40 {N : Nat} {rec25 : Int32 → Int64 → Int32 → aSt → Option (aSt)} {rec40 : Int32 → Int64 → Int32 → Int32 → aSt → Option (aSt)} (hrec25 : ∀ (v1 : Int32) (v2 : Int64) (v4 : Int32) (S : aSt) {r : aSt}, rec25 v1 v2 v4 S = (some r) → aFr W_X11_layPairs_42 S r) (hrec40 : ∀ (v1 : Int32) (v2 : Int64) (v4 : Int32) (v5 : Int32) (S : aSt) {r : aSt}, rec40 v1 v2 v4 v5 S = (some r) → aFr W_X11_layPairs_42 S r) (v1 : Int32) (v2 : Int64) (v4 : Int32) (v5 : Int32) (S : aSt) {r : aSt} (hf : X11_layPairs_42_b40 N rec25 rec40 v1 v2 v4 v5 S = (some r)) : aFr W_X11_layPairs_42 S r := by
  unfold X11_layPairs_42_b40 at hf
  rcases aIfE hf with ⟨-, hf⟩ | ⟨-, hf⟩
  · exact aFr.tr aFr.rf (F_X11_layPairs_42_b147 hrec25 v1 v2 v4 S hf)
  · obtain ⟨-, hf⟩ := aGdE hf
    obtain ⟨-, hf⟩ := aGdE hf
    rcases aIfE hf with ⟨-, hf⟩ | ⟨-, hf⟩
    · obtain ⟨w6, ew7, hf⟩ := aBnE hf
      rcases aIfE hf with ⟨-, hf⟩ | ⟨-, hf⟩
      · exact aFr.tr aFr.rf (F_X11_layPairs_42_b141 hrec25 hrec40 v1 v2 v4 v5 S hf)
      · obtain ⟨-, hf⟩ := aGdE hf
        obtain ⟨-, hf⟩ := aGdE hf
        rcases aIfE hf with ⟨-, hf⟩ | ⟨-, hf⟩
        · exact aFr.tr (aFr.L (aFr.L aFr.rf 42 26 _ (by decide)) 42 27 _ (by decide)) (F_X11_layPairs_42_b141 hrec25 hrec40 v1 v2 v4 v5 (aL (aL S 42 26 ((S.2.1 42 26) + (1 : Int64))) 42 27 ((S.2.1 42 27) + ((((S.2.2 54) v4.toNatClampNeg).toInt64) * (((S.2.2 54) v5.toNatClampNeg).toInt64)))) hf)
        · exact aFr.tr (aFr.I (aFr.I (aFr.L (aFr.L aFr.rf 42 26 _ (by decide)) 42 27 _ (by decide)) 42 28 _ (by decide)) 42 29 _ (by decide)) (F_X11_layPairs_42_b141 hrec25 hrec40 v1 ((((S.2.2 54) v4.toNatClampNeg).toInt64) * (((S.2.2 54) v5.toNatClampNeg).toInt64)) v4 v5 (aI (aI (aL (aL S 42 26 ((S.2.1 42 26) + (1 : Int64))) 42 27 ((S.2.1 42 27) + ((((S.2.2 54) v4.toNatClampNeg).toInt64) * (((S.2.2 54) v5.toNatClampNeg).toInt64)))) 42 28 v4) 42 29 v5) hf)
    · exact aFr.tr aFr.rf (F_X11_layPairs_42_b141 hrec25 hrec40 v1 v2 v4 v5 S hf)
theorem F_X11_layPairs_42_l40 {N : Nat} {rec25 : Int32 → Int64 → Int32 → aSt → Option (aSt)} (hrec25 : ∀ (v1 : Int32) (v2 : Int64) (v4 : Int32) (S : aSt) {r : aSt}, rec25 v1 v2 v4 S = (some r) → aFr W_X11_layPairs_42 S r) : ∀ (n : Nat) (v1 : Int32) (v2 : Int64) (v4 : Int32) (v5 : Int32) (S : aSt) {r : aSt}, X11_layPairs_42_l40 N rec25 n v1 v2 v4 v5 S = (some r) → aFr W_X11_layPairs_42 S r
  | 0, _, _, _, _, _, _, h => nomatch (show (none : Option (aSt)) = some _ from h)
  | n + 1, v1, v2, v4, v5, S, _, h => F_X11_layPairs_42_b40 hrec25 (fun v1 v2 v4 v5 S _ h => F_X11_layPairs_42_l40 hrec25 n v1 v2 v4 v5 S h) v1 v2 v4 v5 S h
theorem F_X11_layPairs_42_b25 {N : Nat} {rec25 : Int32 → Int64 → Int32 → aSt → Option (aSt)} (hrec25 : ∀ (v1 : Int32) (v2 : Int64) (v4 : Int32) (S : aSt) {r : aSt}, rec25 v1 v2 v4 S = (some r) → aFr W_X11_layPairs_42 S r) (v1 : Int32) (v2 : Int64) (v4 : Int32) (S : aSt) {r : aSt} (hf : X11_layPairs_42_b25 N rec25 v1 v2 v4 S = (some r)) : aFr W_X11_layPairs_42 S r := by
  unfold X11_layPairs_42_b25 at hf
  rcases aIfE hf with ⟨-, hf⟩ | ⟨-, hf⟩
  · have e9 := Option.some.inj hf; subst e9
    exact aFr.rf
  · exact aFr.tr aFr.rf (F_X11_layPairs_42_l40 hrec25 N v1 v2 v4 (v4 + (1 : Int32)) S hf)
theorem F_X11_layPairs_42_l25 {N : Nat} : ∀ (n : Nat) (v1 : Int32) (v2 : Int64) (v4 : Int32) (S : aSt) {r : aSt}, X11_layPairs_42_l25 N n v1 v2 v4 S = (some r) → aFr W_X11_layPairs_42 S r
  | 0, _, _, _, _, _, h => nomatch (show (none : Option (aSt)) = some _ from h)
  | n + 1, v1, v2, v4, S, _, h => F_X11_layPairs_42_b25 (fun v1 v2 v4 S _ h => F_X11_layPairs_42_l25 n v1 v2 v4 S h) v1 v2 v4 S h
theorem F_X11_layPairs_42 (N : Nat) (a1 : Int32) (S : aSt) {r : aSt} (hf : X11_layPairs_42 N a1 S = (some r)) : aFr W_X11_layPairs_42 S r := by
  unfold X11_layPairs_42 at hf
  exact aFr.tr (aFr.I (aFr.I (aFr.L (aFr.L aFr.rf 42 26 _ (by decide)) 42 27 _ (by decide)) 42 28 _ (by decide)) 42 29 _ (by decide)) (F_X11_layPairs_42_l25 N a1 (0 : Int64) (0 : Int32) (aI (aI (aL (aL S 42 26 (0 : Int64)) 42 27 (0 : Int64)) 42 28 ((-1) : Int32)) 42 29 ((-1) : Int32)) hf)
def W_X11_chance_42 : aWr := ([(42, 23), (42, 25), (42, 28), (42, 29)], [(42, 26), (42, 27)], [50, 51, 52, 53, 54, 55])
theorem F_X11_chance_42 (N : Nat) (a1 : Int32) (a2 : Int32) (S : aSt) {r : Int64 × aSt} (hf : X11_chance_42 N a1 a2 S = (some r)) : aFr W_X11_chance_42 S r.2 := by
  unfold X11_chance_42 at hf
  obtain ⟨w1, ew2, hf⟩ := aBnE hf
  have hw1 : aFr W_X11_chance_42 S w1 := aFr.tr aFr.rf ((F_X11_layOnes_42 N (0 : Int32) S ew2).mono (by decide))
  obtain ⟨w3, ew4, hf⟩ := aLetE hf
  rcases aIfE hf with ⟨-, hf⟩ | ⟨-, hf⟩
  · have e9 := Option.some.inj hf; subst e9
    exact hw1
  · obtain ⟨w6, ew7, hf⟩ := aBnE hf
    rcases aIfE hf with ⟨-, hf⟩ | ⟨-, hf⟩
    · have e9 := Option.some.inj hf; subst e9
      exact hw1
    · obtain ⟨-, hf⟩ := aGdE hf
      obtain ⟨-, hf⟩ := aGdE hf
      obtain ⟨w11, ew12, hf⟩ := aBnE hf
      obtain ⟨w13, ew14, hf⟩ := aBnE hf
      obtain ⟨w15, ew16, hf⟩ := aBnE hf
      have hw15 : aFr W_X11_chance_42 S w15 := aFr.tr hw1 ((F_X11_layPairs_42 N (-w13) w1 ew16).mono (by decide))
      obtain ⟨w17, ew18, hf⟩ := aBnE hf
      have e9 := Option.some.inj hf; subst e9
      exact hw15
def W_X11_erase_42 : aWr := ([(42, 1)], [], [])
theorem F_X11_erase_42 (S : aSt) {r : Int32 × aSt} (hf : X11_erase_42 S = r) : aFr W_X11_erase_42 S r.2 := by
  unfold X11_erase_42 at hf
  subst hf
  exact (aFr.I aFr.rf 42 1 _ (by decide))
def W_X11_layTwo_42 : aWr := ([(42, 23), (42, 28), (42, 29)], [(42, 26), (42, 27)], [50, 51, 52, 53, 54])
theorem F_X11_layTwo_42_b19 {N : Nat} (s0 : Int32) (S : aSt) {r : aSt} (hf : X11_layTwo_42_b19 N s0 S = (some r)) : aFr W_X11_layTwo_42 S r := by
  unfold X11_layTwo_42_b19 at hf
  obtain ⟨w6, ew7, hf⟩ := aBnE hf
  have hw6 : aFr W_X11_layTwo_42 S w6 := aFr.tr aFr.rf ((F_X11_layPairs_42 N s0 S ew7).mono (by decide))
  have e9 := Option.some.inj hf; subst e9
  exact hw6
theorem F_X11_layTwo_42 (N : Nat) (a1 : Int32) (S : aSt) {r : aSt} (hf : X11_layTwo_42 N a1 S = (some r)) : aFr W_X11_layTwo_42 S r := by
  unfold X11_layTwo_42 at hf
  obtain ⟨w1, ew2, hf⟩ := aBnE hf
  have hw1 : aFr W_X11_layTwo_42 S w1 := aFr.tr aFr.rf ((F_X11_laySlips_42 N  S ew2).mono (by decide))
  rcases aIfE hf with ⟨-, hf⟩ | ⟨-, hf⟩
  · obtain ⟨w4, ew5, hf⟩ := aBnE hf
    exact aFr.tr hw1 (F_X11_layTwo_42_b19 (-w4) w1 hf)
  · exact aFr.tr hw1 (F_X11_layTwo_42_b19 (0 : Int32) w1 hf)
def W_X11_hide_42 : aWr := ([(42, 23), (42, 28), (42, 29)], [(42, 26), (42, 27)], [50, 51, 52, 53, 54])
theorem F_X11_hide_42 (N : Nat) (a1 : Int32) (S : aSt) {r : Int64 × aSt} (hf : X11_hide_42 N a1 S = (some r)) : aFr W_X11_hide_42 S r.2 := by
  unfold X11_hide_42 at hf
  obtain ⟨w1, ew2, hf⟩ := aLetE hf
  rcases aIfE hf with ⟨-, hf⟩ | ⟨-, hf⟩
  · have e9 := Option.some.inj hf; subst e9
    exact aFr.rf
  · obtain ⟨w4, ew5, hf⟩ := aBnE hf
    have hw4 : aFr W_X11_hide_42 S w4 := aFr.tr aFr.rf ((F_X11_layTwo_42 N (1 : Int32) S ew5).mono (by decide))
    rcases aIfE hf with ⟨-, hf⟩ | ⟨-, hf⟩
    · have e9 := Option.some.inj hf; subst e9
      exact hw4
    · have e9 := Option.some.inj hf; subst e9
      exact hw4
def W_X11_learn_42 : aWr := ([], [], [47])
theorem F_X11_learn_42_b53 {N : Nat} (v1 : Int32) (v2 : Int32) (s0 : Int32) (s1 : Int32) (s2 : Int32) (S : aSt) {r : Int32 × aSt} (hf : X11_learn_42_b53 N v1 v2 s0 s1 s2 S = (some r)) : aFr W_X11_learn_42 S r.2 := by
  unfold X11_learn_42_b53 at hf
  obtain ⟨-, hf⟩ := aGdE hf
  obtain ⟨-, hf⟩ := aGdE hf
  have e9 := Option.some.inj hf; subst e9
  exact (aFr.A aFr.rf 47 _ (by decide))
theorem F_X11_learn_42 (N : Nat) (a1 : Int32) (a2 : Int32) (S : aSt) {r : Int32 × aSt} (hf : X11_learn_42 N a1 a2 S = (some r)) : aFr W_X11_learn_42 S r.2 := by
  unfold X11_learn_42 at hf
  obtain ⟨w1, ew2, hf⟩ := aBnE hf
  rcases aIfE hf with ⟨-, hf⟩ | ⟨-, hf⟩
  · have e9 := Option.some.inj hf; subst e9
    exact aFr.rf
  · obtain ⟨w4, ew5, hf⟩ := aLetE hf
    rcases aIfE hf with ⟨-, hf⟩ | ⟨-, hf⟩
    · have e9 := Option.some.inj hf; subst e9
      exact aFr.rf
    · obtain ⟨-, hf⟩ := aGdE hf
      obtain ⟨-, hf⟩ := aGdE hf
      rcases aIfE hf with ⟨-, hf⟩ | ⟨-, hf⟩
      · exact aFr.tr aFr.rf (F_X11_learn_42_b53 a1 a2 (0 : Int32) ((S.2.2 47) (((5 : Int32) * a1) + a2).toNatClampNeg) (((5 : Int32) * a1) + a2) S hf)
      · exact aFr.tr aFr.rf (F_X11_learn_42_b53 a1 a2 (1 : Int32) ((S.2.2 47) (((5 : Int32) * a1) + a2).toNatClampNeg) (((5 : Int32) * a1) + a2) S hf)
def W_X11_layLooks_42 : aWr := ([(42, 23), (42, 25), (42, 32)], [], [50, 51, 52, 53, 54, 55, 56, 57])
theorem F_X11_layLooks_42_b165 {N : Nat} {rec86 : Int32 → aSt → Option (aSt)} (hrec86 : ∀ (v2 : Int32) (S : aSt) {r : aSt}, rec86 v2 S = (some r) → aFr W_X11_layLooks_42 S r) (v2 : Int32) (S : aSt) {r : aSt} (hf : X11_layLooks_42_b165 N rec86 v2 S = (some r)) : aFr W_X11_layLooks_42 S r := by
  unfold X11_layLooks_42_b165 at hf
  exact aFr.tr aFr.rf (hrec86 (v2 + (1 : Int32)) S hf)
theorem F_X11_layLooks_42_b148 {N : Nat} {rec86 : Int32 → aSt → Option (aSt)} (hrec86 : ∀ (v2 : Int32) (S : aSt) {r : aSt}, rec86 v2 S = (some r) → aFr W_X11_layLooks_42 S r) (v2 : Int32) (v3 : Int32) (S : aSt) {r : aSt} (hf : X11_layLooks_42_b148 N rec86 v2 v3 S = (some r)) : aFr W_X11_layLooks_42 S r := by
  unfold X11_layLooks_42_b148 at hf
  obtain ⟨-, hf⟩ := aGdE hf
  exact aFr.tr (aFr.I (aFr.A aFr.rf 57 _ (by decide)) 42 32 _ (by decide)) (F_X11_layLooks_42_b165 hrec86 v2 (aI (aA S 57 (upd (S.2.2 57) v3.toNatClampNeg v2)) 42 32 ((S.1 42 32) + (1 : Int32))) hf)
theorem F_X11_layLooks_42_b108 {N : Nat} {rec86 : Int32 → aSt → Option (aSt)} {rec108 : Int32 → Int32 → aSt → Option (aSt)} (hrec86 : ∀ (v2 : Int32) (S : aSt) {r : aSt}, rec86 v2 S = (some r) → aFr W_X11_layLooks_42 S r) (hrec108 : ∀ (v2 : Int32) (v3 : Int32) (S : aSt) {r : aSt}, rec108 v2 v3 S = (some r) → aFr W_X11_layLooks_42 S r) (v2 : Int32) (v3 : Int32) (S : aSt) {r : aSt} (hf : X11_layLooks_42_b108 N rec86 rec108 v2 v3 S = (some r)) : aFr W_X11_layLooks_42 S r := by
  unfold X11_layLooks_42_b108 at hf
  rcases aIfE hf with ⟨-, hf⟩ | ⟨-, hf⟩
  · exact aFr.tr aFr.rf (F_X11_layLooks_42_b148 hrec86 v2 v3 S hf)
  · obtain ⟨-, hf⟩ := aGdE hf
    obtain ⟨w11, ew12, hf⟩ := aBnE hf
    rcases aIfE hf with ⟨-, hf⟩ | ⟨-, hf⟩
    · exact aFr.tr aFr.rf (F_X11_layLooks_42_b148 hrec86 v2 v3 S hf)
    · obtain ⟨-, hf⟩ := aGdE hf
      obtain ⟨-, hf⟩ := aGdE hf
      exact aFr.tr (aFr.A aFr.rf 57 _ (by decide)) (hrec108 v2 (v3 + ((-1) : Int32)) (aA S 57 (upd (S.2.2 57) v3.toNatClampNeg ((S.2.2 57) (v3 - (1 : Int32)).toNatClampNeg))) hf)
theorem F_X11_layLooks_42_l108 {N : Nat} {rec86 : Int32 → aSt → Option (aSt)} (hrec86 : ∀ (v2 : Int32) (S : aSt) {r : aSt}, rec86 v2 S = (some r) → aFr W_X11_layLooks_42 S r) : ∀ (n : Nat) (v2 : Int32) (v3 : Int32) (S : aSt) {r : aSt}, X11_layLooks_42_l108 N rec86 n v2 v3 S = (some r) → aFr W_X11_layLooks_42 S r
  | 0, _, _, _, _, h => nomatch (show (none : Option (aSt)) = some _ from h)
  | n + 1, v2, v3, S, _, h => F_X11_layLooks_42_b108 hrec86 (fun v2 v3 S _ h => F_X11_layLooks_42_l108 hrec86 n v2 v3 S h) v2 v3 S h
theorem F_X11_layLooks_42_b86 {N : Nat} {rec86 : Int32 → aSt → Option (aSt)} (hrec86 : ∀ (v2 : Int32) (S : aSt) {r : aSt}, rec86 v2 S = (some r) → aFr W_X11_layLooks_42 S r) (v2 : Int32) (S : aSt) {r : aSt} (hf : X11_layLooks_42_b86 N rec86 v2 S = (some r)) : aFr W_X11_layLooks_42 S r := by
  unfold X11_layLooks_42_b86 at hf
  rcases aIfE hf with ⟨-, hf⟩ | ⟨-, hf⟩
  · have e9 := Option.some.inj hf; subst e9
    exact aFr.rf
  · obtain ⟨-, hf⟩ := aGdE hf
    rcases aIfE hf with ⟨-, hf⟩ | ⟨-, hf⟩
    · exact aFr.tr aFr.rf (F_X11_layLooks_42_b165 hrec86 v2 S hf)
    · exact aFr.tr aFr.rf (F_X11_layLooks_42_l108 hrec86 N v2 (S.1 42 32) S hf)
theorem F_X11_layLooks_42_l86 {N : Nat} : ∀ (n : Nat) (v2 : Int32) (S : aSt) {r : aSt}, X11_layLooks_42_l86 N n v2 S = (some r) → aFr W_X11_layLooks_42 S r
  | 0, _, _, _, h => nomatch (show (none : Option (aSt)) = some _ from h)
  | n + 1, v2, S, _, h => F_X11_layLooks_42_b86 (fun v2 S _ h => F_X11_layLooks_42_l86 n v2 S h) v2 S h
theorem F_X11_layLooks_42_b79 {N : Nat} (S : aSt) {r : aSt} (hf : X11_layLooks_42_b79 N S = (some r)) : aFr W_X11_layLooks_42 S r := by
  unfold X11_layLooks_42_b79 at hf
  exact aFr.tr (aFr.I aFr.rf 42 32 _ (by decide)) (F_X11_layLooks_42_l86 N (0 : Int32) (aI S 42 32 (0 : Int32)) hf)
theorem F_X11_layLooks_42_b73 {N : Nat} {rec28 : Int32 → aSt → Option (aSt)} (hrec28 : ∀ (v2 : Int32) (S : aSt) {r : aSt}, rec28 v2 S = (some r) → aFr W_X11_layLooks_42 S r) (v2 : Int32) (S : aSt) {r : aSt} (hf : X11_layLooks_42_b73 N rec28 v2 S = (some r)) : aFr W_X11_layLooks_42 S r := by
  unfold X11_layLooks_42_b73 at hf
  exact aFr.tr aFr.rf (hrec28 (v2 + (1 : Int32)) S hf)
theorem F_X11_layLooks_42_b28 {N : Nat} {rec28 : Int32 → aSt → Option (aSt)} (hrec28 : ∀ (v2 : Int32) (S : aSt) {r : aSt}, rec28 v2 S = (some r) → aFr W_X11_layLooks_42 S r) (v2 : Int32) (S : aSt) {r : aSt} (hf : X11_layLooks_42_b28 N rec28 v2 S = (some r)) : aFr W_X11_layLooks_42 S r := by
  unfold X11_layLooks_42_b28 at hf
  rcases aIfE hf with ⟨-, hf⟩ | ⟨-, hf⟩
  · exact aFr.tr aFr.rf (F_X11_layLooks_42_b79 S hf)
  · obtain ⟨-, hf⟩ := aGdE hf
    obtain ⟨-, hf⟩ := aGdE hf
    rcases aIfE hf with ⟨-, hf⟩ | ⟨-, hf⟩
    · exact aFr.tr aFr.rf (F_X11_layLooks_42_b73 hrec28 v2 S hf)
    · obtain ⟨-, hf⟩ := aGdE hf
      obtain ⟨-, hf⟩ := aGdE hf
      obtain ⟨-, hf⟩ := aGdE hf
      obtain ⟨-, hf⟩ := aGdE hf
      exact aFr.tr (aFr.A aFr.rf 56 _ (by decide)) (F_X11_layLooks_42_b73 hrec28 v2 (aA S 56 (upd (S.2.2 56) ((S.2.2 51) ((S.2.2 55) v2.toNatClampNeg).toNatClampNeg).toNatClampNeg (((S.2.2 56) ((S.2.2 51) ((S.2.2 55) v2.toNatClampNeg).toNatClampNeg).toNatClampNeg) + ((S.2.2 54) ((S.2.2 55) v2.toNatClampNeg).toNatClampNeg)))) hf)
theorem F_X11_layLooks_42_l28 {N : Nat} : ∀ (n : Nat) (v2 : Int32) (S : aSt) {r : aSt}, X11_layLooks_42_l28 N n v2 S = (some r) → aFr W_X11_layLooks_42 S r
  | 0, _, _, _, h => nomatch (show (none : Option (aSt)) = some _ from h)
  | n + 1, v2, S, _, h => F_X11_layLooks_42_b28 (fun v2 S _ h => F_X11_layLooks_42_l28 n v2 S h) v2 S h
theorem F_X11_layLooks_42_b26 {N : Nat} (S : aSt) {r : aSt} (hf : X11_layLooks_42_b26 N S = (some r)) : aFr W_X11_layLooks_42 S r := by
  unfold X11_layLooks_42_b26 at hf
  exact aFr.tr aFr.rf (F_X11_layLooks_42_l28 N (0 : Int32) S hf)
theorem F_X11_layLooks_42_b7 {N : Nat} {rec7 : Int32 → aSt → Option (aSt)} (hrec7 : ∀ (v2 : Int32) (S : aSt) {r : aSt}, rec7 v2 S = (some r) → aFr W_X11_layLooks_42 S r) (v2 : Int32) (S : aSt) {r : aSt} (hf : X11_layLooks_42_b7 N rec7 v2 S = (some r)) : aFr W_X11_layLooks_42 S r := by
  unfold X11_layLooks_42_b7 at hf
  rcases aIfE hf with ⟨-, hf⟩ | ⟨-, hf⟩
  · exact aFr.tr aFr.rf (F_X11_layLooks_42_b26 S hf)
  · obtain ⟨-, hf⟩ := aGdE hf
    exact aFr.tr (aFr.A aFr.rf 56 _ (by decide)) (hrec7 (v2 + (1 : Int32)) (aA S 56 (upd (S.2.2 56) v2.toNatClampNeg (0 : Int32))) hf)
theorem F_X11_layLooks_42_l7 {N : Nat} : ∀ (n : Nat) (v2 : Int32) (S : aSt) {r : aSt}, X11_layLooks_42_l7 N n v2 S = (some r) → aFr W_X11_layLooks_42 S r
  | 0, _, _, _, h => nomatch (show (none : Option (aSt)) = some _ from h)
  | n + 1, v2, S, _, h => F_X11_layLooks_42_b7 (fun v2 S _ h => F_X11_layLooks_42_l7 n v2 S h) v2 S h
theorem F_X11_layLooks_42 (N : Nat) (a1 : Int32) (S : aSt) {r : aSt} (hf : X11_layLooks_42 N a1 S = (some r)) : aFr W_X11_layLooks_42 S r := by
  unfold X11_layLooks_42 at hf
  obtain ⟨w1, ew2, hf⟩ := aBnE hf
  have hw1 : aFr W_X11_layLooks_42 S w1 := aFr.tr aFr.rf ((F_X11_layOnes_42 N a1 S ew2).mono (by decide))
  exact aFr.tr hw1 (F_X11_layLooks_42_l7 N (0 : Int32) w1 hf)
def W_X11_look_42 : aWr := ([(42, 23), (42, 25), (42, 32)], [], [50, 51, 52, 53, 54, 55, 56, 57])
theorem F_X11_look_42 (N : Nat) (a1 : Int32) (a2 : Int32) (S : aSt) {r : Int32 × aSt} (hf : X11_look_42 N a1 a2 S = (some r)) : aFr W_X11_look_42 S r.2 := by
  unfold X11_look_42 at hf
  rcases aIfE hf with ⟨-, hf⟩ | ⟨-, hf⟩
  · obtain ⟨w2, ew3, hf⟩ := aBnE hf
    have hw2 : aFr W_X11_look_42 S w2 := aFr.tr aFr.rf ((F_X11_layLooks_42 N a2 S ew3).mono (by decide))
    rcases aIfE hf with ⟨-, hf⟩ | ⟨-, hf⟩
    · have e9 := Option.some.inj hf; subst e9
      exact hw2
    · rcases aIfE hf with ⟨-, hf⟩ | ⟨-, hf⟩
      · have e9 := Option.some.inj hf; subst e9
        exact hw2
      · obtain ⟨-, hf⟩ := aGdE hf
        have e9 := Option.some.inj hf; subst e9
        exact hw2
  · have e9 := Option.some.inj hf; subst e9
    exact aFr.rf
def W_X11_layRest_42 : aWr := ([], [], [58])
theorem F_X11_layRest_42_b116 {N : Nat} {rec2 : Int32 → Int32 → aSt → Option (aSt)} (hrec2 : ∀ (v1 : Int32) (v2 : Int32) (S : aSt) {r : aSt}, rec2 v1 v2 S = (some r) → aFr W_X11_layRest_42 S r) (v1 : Int32) (v2 : Int32) (S : aSt) {r : aSt} (hf : X11_layRest_42_b116 N rec2 v1 v2 S = (some r)) : aFr W_X11_layRest_42 S r := by
  unfold X11_layRest_42_b116 at hf
  exact aFr.tr aFr.rf (hrec2 v1 (v2 + ((-1) : Int32)) S hf)
theorem F_X11_layRest_42_b97 {N : Nat} {rec2 : Int32 → Int32 → aSt → Option (aSt)} {rec11 : Int32 → Int32 → Int32 → aSt → Option (aSt)} (hrec2 : ∀ (v1 : Int32) (v2 : Int32) (S : aSt) {r : aSt}, rec2 v1 v2 S = (some r) → aFr W_X11_layRest_42 S r) (hrec11 : ∀ (v1 : Int32) (v2 : Int32) (v3 : Int32) (S : aSt) {r : aSt}, rec11 v1 v2 v3 S = (some r) → aFr W_X11_layRest_42 S r) (v1 : Int32) (v2 : Int32) (v3 : Int32) (v4 : Int32) (S : aSt) {r : aSt} (hf : X11_layRest_42_b97 N rec2 rec11 v1 v2 v3 v4 S = (some r)) : aFr W_X11_layRest_42 S r := by
  unfold X11_layRest_42_b97 at hf
  obtain ⟨-, hf⟩ := aGdE hf
  exact aFr.tr (aFr.A aFr.rf 58 _ (by decide)) (hrec11 v1 v2 (v3 + ((-1) : Int32)) (aA S 58 (upd (S.2.2 58) (((13 : Int32) * v2) + v3).toNatClampNeg v4)) hf)
theorem F_X11_layRest_42_b89 {N : Nat} {rec2 : Int32 → Int32 → aSt → Option (aSt)} {rec11 : Int32 → Int32 → Int32 → aSt → Option (aSt)} {rec49 : Int32 → Int32 → Int32 → Int32 → Int32 → aSt → Option (aSt)} (hrec2 : ∀ (v1 : Int32) (v2 : Int32) (S : aSt) {r : aSt}, rec2 v1 v2 S = (some r) → aFr W_X11_layRest_42 S r) (hrec11 : ∀ (v1 : Int32) (v2 : Int32) (v3 : Int32) (S : aSt) {r : aSt}, rec11 v1 v2 v3 S = (some r) → aFr W_X11_layRest_42 S r) (hrec49 : ∀ (v1 : Int32) (v2 : Int32) (v3 : Int32) (v4 : Int32) (v5 : Int32) (S : aSt) {r : aSt}, rec49 v1 v2 v3 v4 v5 S = (some r) → aFr W_X11_layRest_42 S r) (v1 : Int32) (v2 : Int32) (v3 : Int32) (v5 : Int32) (s0 : Int32) (S : aSt) {r : aSt} (hf : X11_layRest_42_b89 N rec2 rec11 rec49 v1 v2 v3 v5 s0 S = (some r)) : aFr W_X11_layRest_42 S r := by
  unfold X11_layRest_42_b89 at hf
  exact aFr.tr aFr.rf (hrec49 v1 v2 v3 s0 (v5 + (1 : Int32)) S hf)
theorem F_X11_layRest_42_b49 {N : Nat} {rec2 : Int32 → Int32 → aSt → Option (aSt)} {rec11 : Int32 → Int32 → Int32 → aSt → Option (aSt)} {rec49 : Int32 → Int32 → Int32 → Int32 → Int32 → aSt → Option (aSt)} (hrec2 : ∀ (v1 : Int32) (v2 : Int32) (S : aSt) {r : aSt}, rec2 v1 v2 S = (some r) → aFr W_X11_layRest_42 S r) (hrec11 : ∀ (v1 : Int32) (v2 : Int32) (v3 : Int32) (S : aSt) {r : aSt}, rec11 v1 v2 v3 S = (some r) → aFr W_X11_layRest_42 S r) (hrec49 : ∀ (v1 : Int32) (v2 : Int32) (v3 : Int32) (v4 : Int32) (v5 : Int32) (S : aSt) {r : aSt}, rec49 v1 v2 v3 v4 v5 S = (some r) → aFr W_X11_layRest_42 S r) (v1 : Int32) (v2 : Int32) (v3 : Int32) (v4 : Int32) (v5 : Int32) (S : aSt) {r : aSt} (hf : X11_layRest_42_b49 N rec2 rec11 rec49 v1 v2 v3 v4 v5 S = (some r)) : aFr W_X11_layRest_42 S r := by
  unfold X11_layRest_42_b49 at hf
  rcases aIfE hf with ⟨-, hf⟩ | ⟨-, hf⟩
  · exact aFr.tr aFr.rf (F_X11_layRest_42_b97 hrec2 hrec11 v1 v2 v3 v4 S hf)
  · rcases aIfE hf with ⟨-, hf⟩ | ⟨-, hf⟩
    · exact aFr.tr aFr.rf (F_X11_layRest_42_b97 hrec2 hrec11 v1 v2 v3 v4 S hf)
    · obtain ⟨w8, ew9, hf⟩ := aBnE hf
      rcases aIfE hf with ⟨-, hf⟩ | ⟨-, hf⟩
      · exact aFr.tr aFr.rf (F_X11_layRest_42_b89 hrec2 hrec11 hrec49 v1 v2 v3 v5 v4 S hf)
      · obtain ⟨w11, ew12, hf⟩ := aBnE hf
        exact aFr.tr aFr.rf (F_X11_layRest_42_b89 hrec2 hrec11 hrec49 v1 v2 v3 v5 w11 S hf)
theorem F_X11_layRest_42_l49 {N : Nat} {rec2 : Int32 → Int32 → aSt → Option (aSt)} {rec11 : Int32 → Int32 → Int32 → aSt → Option (aSt)} (hrec2 : ∀ (v1 : Int32) (v2 : Int32) (S : aSt) {r : aSt}, rec2 v1 v2 S = (some r) → aFr W_X11_layRest_42 S r) (hrec11 : ∀ (v1 : Int32) (v2 : Int32) (v3 : Int32) (S : aSt) {r : aSt}, rec11 v1 v2 v3 S = (some r) → aFr W_X11_layRest_42 S r) : ∀ (n : Nat) (v1 : Int32) (v2 : Int32) (v3 : Int32) (v4 : Int32) (v5 : Int32) (S : aSt) {r : aSt}, X11_layRest_42_l49 N rec2 rec11 n v1 v2 v3 v4 v5 S = (some r) → aFr W_X11_layRest_42 S r
  | 0, _, _, _, _, _, _, _, h => nomatch (show (none : Option (aSt)) = some _ from h)
  | n + 1, v1, v2, v3, v4, v5, S, _, h => F_X11_layRest_42_b49 hrec2 hrec11 (fun v1 v2 v3 v4 v5 S _ h => F_X11_layRest_42_l49 hrec2 hrec11 n v1 v2 v3 v4 v5 S h) v1 v2 v3 v4 v5 S h
theorem F_X11_layRest_42_b44 {N : Nat} {rec2 : Int32 → Int32 → aSt → Option (aSt)} {rec11 : Int32 → Int32 → Int32 → aSt → Option (aSt)} (hrec2 : ∀ (v1 : Int32) (v2 : Int32) (S : aSt) {r : aSt}, rec2 v1 v2 S = (some r) → aFr W_X11_layRest_42 S r) (hrec11 : ∀ (v1 : Int32) (v2 : Int32) (v3 : Int32) (S : aSt) {r : aSt}, rec11 v1 v2 v3 S = (some r) → aFr W_X11_layRest_42 S r) (v1 : Int32) (v2 : Int32) (v3 : Int32) (s0 : Int32) (S : aSt) {r : aSt} (hf : X11_layRest_42_b44 N rec2 rec11 v1 v2 v3 s0 S = (some r)) : aFr W_X11_layRest_42 S r := by
  unfold X11_layRest_42_b44 at hf
  exact aFr.tr aFr.rf (F_X11_layRest_42_l49 hrec2 hrec11 N v1 v2 v3 s0 v3 S hf)
theorem F_X11_layRest_42_b11 {N : Nat} {rec2 : Int32 → Int32 → aSt → Option (aSt)} {rec11 : Int32 → Int32 → Int32 → aSt → Option (aSt)} (hrec2 : ∀ (v1 : Int32) (v2 : Int32) (S : aSt) {r : aSt}, rec2 v1 v2 S = (some r) → aFr W_X11_layRest_42 S r) (hrec11 : ∀ (v1 : Int32) (v2 : Int32) (v3 : Int32) (S : aSt) {r : aSt}, rec11 v1 v2 v3 S = (some r) → aFr W_X11_layRest_42 S r) (v1 : Int32) (v2 : Int32) (v3 : Int32) (S : aSt) {r : aSt} (hf : X11_layRest_42_b11 N rec2 rec11 v1 v2 v3 S = (some r)) : aFr W_X11_layRest_42 S r := by
  unfold X11_layRest_42_b11 at hf
  rcases aIfE hf with ⟨-, hf⟩ | ⟨-, hf⟩
  · exact aFr.tr aFr.rf (F_X11_layRest_42_b116 hrec2 v1 v2 S hf)
  · rcases aIfE hf with ⟨-, hf⟩ | ⟨-, hf⟩
    · exact aFr.tr aFr.rf (F_X11_layRest_42_b44 hrec2 hrec11 v1 v2 v3 ((S.1 42 14) - v3) S hf)
    · obtain ⟨-, hf⟩ := aGdE hf
      exact aFr.tr aFr.rf (F_X11_layRest_42_b44 hrec2 hrec11 v1 v2 v3 ((1 : Int32) + ((S.2.2 58) (((13 : Int32) * (v2 + (1 : Int32))) + v3).toNatClampNeg)) S hf)
theorem F_X11_layRest_42_l11 {N : Nat} {rec2 : Int32 → Int32 → aSt → Option (aSt)} (hrec2 : ∀ (v1 : Int32) (v2 : Int32) (S : aSt) {r : aSt}, rec2 v1 v2 S = (some r) → aFr W_X11_layRest_42 S r) : ∀ (n : Nat) (v1 : Int32) (v2 : Int32) (v3 : Int32) (S : aSt) {r : aSt}, X11_layRest_42_l11 N rec2 n v1 v2 v3 S = (some r) → aFr W_X11_layRest_42 S r
  | 0, _, _, _, _, _, h => nomatch (show (none : Option (aSt)) = some _ from h)
  | n + 1, v1, v2, v3, S, _, h => F_X11_layRest_42_b11 hrec2 (fun v1 v2 v3 S _ h => F_X11_layRest_42_l11 hrec2 n v1 v2 v3 S h) v1 v2 v3 S h
theorem F_X11_layRest_42_b2 {N : Nat} {rec2 : Int32 → Int32 → aSt → Option (aSt)} (hrec2 : ∀ (v1 : Int32) (v2 : Int32) (S : aSt) {r : aSt}, rec2 v1 v2 S = (some r) → aFr W_X11_layRest_42 S r) (v1 : Int32) (v2 : Int32) (S : aSt) {r : aSt} (hf : X11_layRest_42_b2 N rec2 v1 v2 S = (some r)) : aFr W_X11_layRest_42 S r := by
  unfold X11_layRest_42_b2 at hf
  rcases aIfE hf with ⟨-, hf⟩ | ⟨-, hf⟩
  · have e9 := Option.some.inj hf; subst e9
    exact aFr.rf
  · exact aFr.tr aFr.rf (F_X11_layRest_42_l11 hrec2 N v1 v2 (S.1 42 14) S hf)
theorem F_X11_layRest_42_l2 {N : Nat} : ∀ (n : Nat) (v1 : Int32) (v2 : Int32) (S : aSt) {r : aSt}, X11_layRest_42_l2 N n v1 v2 S = (some r) → aFr W_X11_layRest_42 S r
  | 0, _, _, _, _, h => nomatch (show (none : Option (aSt)) = some _ from h)
  | n + 1, v1, v2, S, _, h => F_X11_layRest_42_b2 (fun v1 v2 S _ h => F_X11_layRest_42_l2 n v1 v2 S h) v1 v2 S h
theorem F_X11_layRest_42 (N : Nat) (a1 : Int32) (S : aSt) {r : aSt} (hf : X11_layRest_42 N a1 S = (some r)) : aFr W_X11_layRest_42 S r := by
  unfold X11_layRest_42 at hf
  exact aFr.tr aFr.rf (F_X11_layRest_42_l2 N a1 a1 S hf)
def W_X11_match_42 : aWr := ([], [], [58])
theorem F_X11_match_42_b142 {N : Nat} {rec63 : Int32 → Int32 → Int32 → Int32 → aSt → Option (Int32 × aSt)} (hrec63 : ∀ (v2 : Int32) (v3 : Int32) (v4 : Int32) (v5 : Int32) (S : aSt) {r : Int32 × aSt}, rec63 v2 v3 v4 v5 S = (some r) → aFr W_X11_match_42 S r.2) (v2 : Int32) (v4 : Int32) (v5 : Int32) (s0 : Int32) (S : aSt) {r : Int32 × aSt} (hf : X11_match_42_b142 N rec63 v2 v4 v5 s0 S = (some r)) : aFr W_X11_match_42 S r.2 := by
  unfold X11_match_42_b142 at hf
  exact aFr.tr aFr.rf (hrec63 v2 s0 v4 (v5 + (1 : Int32)) S hf)
theorem F_X11_match_42_b128 {N : Nat} {rec63 : Int32 → Int32 → Int32 → Int32 → aSt → Option (Int32 × aSt)} (hrec63 : ∀ (v2 : Int32) (v3 : Int32) (v4 : Int32) (v5 : Int32) (S : aSt) {r : Int32 × aSt}, rec63 v2 v3 v4 v5 S = (some r) → aFr W_X11_match_42 S r.2) (v2 : Int32) (v3 : Int32) (v4 : Int32) (v5 : Int32) (S : aSt) {r : Int32 × aSt} (hf : X11_match_42_b128 N rec63 v2 v3 v4 v5 S = (some r)) : aFr W_X11_match_42 S r.2 := by
  unfold X11_match_42_b128 at hf
  rcases aIfE hf with ⟨-, hf⟩ | ⟨-, hf⟩
  · exact aFr.tr aFr.rf (F_X11_match_42_b142 hrec63 v2 v4 v5 v3 S hf)
  · exact aFr.tr aFr.rf (F_X11_match_42_b142 hrec63 v2 v4 v5 (v4 + (1 : Int32)) S hf)
theorem F_X11_match_42_b120 {N : Nat} {rec63 : Int32 → Int32 → Int32 → Int32 → aSt → Option (Int32 × aSt)} {rec75 : Int32 → Int32 → Int32 → Int32 → Int32 → aSt → Option (Int32 × aSt)} (hrec63 : ∀ (v2 : Int32) (v3 : Int32) (v4 : Int32) (v5 : Int32) (S : aSt) {r : Int32 × aSt}, rec63 v2 v3 v4 v5 S = (some r) → aFr W_X11_match_42 S r.2) (hrec75 : ∀ (v2 : Int32) (v3 : Int32) (v4 : Int32) (v5 : Int32) (v6 : Int32) (S : aSt) {r : Int32 × aSt}, rec75 v2 v3 v4 v5 v6 S = (some r) → aFr W_X11_match_42 S r.2) (v2 : Int32) (v3 : Int32) (v5 : Int32) (v6 : Int32) (s0 : Int32) (S : aSt) {r : Int32 × aSt} (hf : X11_match_42_b120 N rec63 rec75 v2 v3 v5 v6 s0 S = (some r)) : aFr W_X11_match_42 S r.2 := by
  unfold X11_match_42_b120 at hf
  exact aFr.tr aFr.rf (hrec75 v2 v3 s0 v5 (v6 + (1 : Int32)) S hf)
theorem F_X11_match_42_b75 {N : Nat} {rec63 : Int32 → Int32 → Int32 → Int32 → aSt → Option (Int32 × aSt)} {rec75 : Int32 → Int32 → Int32 → Int32 → Int32 → aSt → Option (Int32 × aSt)} (hrec63 : ∀ (v2 : Int32) (v3 : Int32) (v4 : Int32) (v5 : Int32) (S : aSt) {r : Int32 × aSt}, rec63 v2 v3 v4 v5 S = (some r) → aFr W_X11_match_42 S r.2) (hrec75 : ∀ (v2 : Int32) (v3 : Int32) (v4 : Int32) (v5 : Int32) (v6 : Int32) (S : aSt) {r : Int32 × aSt}, rec75 v2 v3 v4 v5 v6 S = (some r) → aFr W_X11_match_42 S r.2) (v2 : Int32) (v3 : Int32) (v4 : Int32) (v5 : Int32) (v6 : Int32) (S : aSt) {r : Int32 × aSt} (hf : X11_match_42_b75 N rec63 rec75 v2 v3 v4 v5 v6 S = (some r)) : aFr W_X11_match_42 S r.2 := by
  unfold X11_match_42_b75 at hf
  rcases aIfE hf with ⟨-, hf⟩ | ⟨-, hf⟩
  · exact aFr.tr aFr.rf (F_X11_match_42_b128 hrec63 v2 v3 v4 v5 S hf)
  · rcases aIfE hf with ⟨-, hf⟩ | ⟨-, hf⟩
    · obtain ⟨w15, ew16, hf⟩ := aBnE hf
      obtain ⟨-, hf⟩ := aGdE hf
      rcases aIfE hf with ⟨-, hf⟩ | ⟨-, hf⟩
      · exact aFr.tr aFr.rf (F_X11_match_42_b120 hrec63 hrec75 v2 v3 v5 v6 v6 S hf)
      · exact aFr.tr aFr.rf (F_X11_match_42_b120 hrec63 hrec75 v2 v3 v5 v6 ((-1) : Int32) S hf)
    · exact aFr.tr aFr.rf (F_X11_match_42_b128 hrec63 v2 v3 v4 v5 S hf)
theorem F_X11_match_42_l75 {N : Nat} {rec63 : Int32 → Int32 → Int32 → Int32 → aSt → Option (Int32 × aSt)} (hrec63 : ∀ (v2 : Int32) (v3 : Int32) (v4 : Int32) (v5 : Int32) (S : aSt) {r : Int32 × aSt}, rec63 v2 v3 v4 v5 S = (some r) → aFr W_X11_match_42 S r.2) : ∀ (n : Nat) (v2 : Int32) (v3 : Int32) (v4 : Int32) (v5 : Int32) (v6 : Int32) (S : aSt) {r : Int32 × aSt}, X11_match_42_l75 N rec63 n v2 v3 v4 v5 v6 S = (some r) → aFr W_X11_match_42 S r.2
  | 0, _, _, _, _, _, _, _, h => nomatch (show (none : Option (Int32 × aSt)) = some _ from h)
  | n + 1, v2, v3, v4, v5, v6, S, _, h => F_X11_match_42_b75 hrec63 (fun v2 v3 v4 v5 v6 S _ h => F_X11_match_42_l75 hrec63 n v2 v3 v4 v5 v6 S h) v2 v3 v4 v5 v6 S h
theorem F_X11_match_42_b63 {N : Nat} {rec63 : Int32 → Int32 → Int32 → Int32 → aSt → Option (Int32 × aSt)} (hrec63 : ∀ (v2 : Int32) (v3 : Int32) (v4 : Int32) (v5 : Int32) (S : aSt) {r : Int32 × aSt}, rec63 v2 v3 v4 v5 S = (some r) → aFr W_X11_match_42 S r.2) (v2 : Int32) (v3 : Int32) (v4 : Int32) (v5 : Int32) (S : aSt) {r : Int32 × aSt} (hf : X11_match_42_b63 N rec63 v2 v3 v4 v5 S = (some r)) : aFr W_X11_match_42 S r.2 := by
  unfold X11_match_42_b63 at hf
  rcases aIfE hf with ⟨-, hf⟩ | ⟨-, hf⟩
  · have e9 := Option.some.inj hf; subst e9
    exact aFr.rf
  · exact aFr.tr aFr.rf (F_X11_match_42_l75 hrec63 N v2 v3 ((-1) : Int32) v5 v3 S hf)
theorem F_X11_match_42_l63 {N : Nat} : ∀ (n : Nat) (v2 : Int32) (v3 : Int32) (v4 : Int32) (v5 : Int32) (S : aSt) {r : Int32 × aSt}, X11_match_42_l63 N n v2 v3 v4 v5 S = (some r) → aFr W_X11_match_42 S r.2
  | 0, _, _, _, _, _, _, h => nomatch (show (none : Option (Int32 × aSt)) = some _ from h)
  | n + 1, v2, v3, v4, v5, S, _, h => F_X11_match_42_b63 (fun v2 v3 v4 v5 S _ h => F_X11_match_42_l63 n v2 v3 v4 v5 S h) v2 v3 v4 v5 S h
theorem F_X11_match_42 (N : Nat) (a1 : Int32) (a2 : Int32) (S : aSt) {r : Int32 × aSt} (hf : X11_match_42 N a1 a2 S = (some r)) : aFr W_X11_match_42 S r.2 := by
  unfold X11_match_42 at hf
  obtain ⟨w1, ew2, hf⟩ := aLetE hf
  rcases aIfE hf with ⟨-, hf⟩ | ⟨-, hf⟩
  · have e9 := Option.some.inj hf; subst e9
    exact aFr.rf
  · rcases aIfE hf with ⟨-, hf⟩ | ⟨-, hf⟩
    · have e9 := Option.some.inj hf; subst e9
      exact aFr.rf
    · obtain ⟨w5, ew6, hf⟩ := aLetE hf
      rcases aIfE hf with ⟨-, hf⟩ | ⟨-, hf⟩
      · have e9 := Option.some.inj hf; subst e9
        exact aFr.rf
      · obtain ⟨w8, ew9, hf⟩ := aBnE hf
        have hw8 : aFr W_X11_match_42 S w8 := aFr.tr aFr.rf ((F_X11_layRest_42 N a1 S ew9).mono (by decide))
        rcases aIfE hf with ⟨-, hf⟩ | ⟨-, hf⟩
        · obtain ⟨-, hf⟩ := aGdE hf
          have e9 := Option.some.inj hf; subst e9
          exact hw8
        · exact aFr.tr hw8 (F_X11_match_42_l63 N a2 (0 : Int32) ((-1) : Int32) (0 : Int32) w8 hf)
def W_X11_mean_42 : aWr := ([(42, 23), (42, 25), (42, 32)], [], [50, 51, 52, 53, 54, 55, 56, 57])
theorem F_X11_mean_42_b107 {N : Nat} (v2 : Int32) (v3 : Int64) (v5 : Int64) (S : aSt) {r : Int32 × aSt} (hf : X11_mean_42_b107 N v2 v3 v5 S = (some r)) : aFr W_X11_mean_42 S r.2 := by
  unfold X11_mean_42_b107 at hf
  obtain ⟨w8, ew9, hf⟩ := aBnE hf
  have e9 := Option.some.inj hf; subst e9
  exact aFr.rf
theorem F_X11_mean_42_b36 {N : Nat} {rec36 : Int32 → Int64 → Int64 → Int32 → Int32 → aSt → Option (Int32 × aSt)} (hrec36 : ∀ (v2 : Int32) (v3 : Int64) (v5 : Int64) (v7 : Int32) (v8 : Int32) (S : aSt) {r : Int32 × aSt}, rec36 v2 v3 v5 v7 v8 S = (some r) → aFr W_X11_mean_42 S r.2) (v2 : Int32) (v3 : Int64) (v5 : Int64) (v7 : Int32) (v8 : Int32) (S : aSt) {r : Int32 × aSt} (hf : X11_mean_42_b36 N rec36 v2 v3 v5 v7 v8 S = (some r)) : aFr W_X11_mean_42 S r.2 := by
  unfold X11_mean_42_b36 at hf
  rcases aIfE hf with ⟨-, hf⟩ | ⟨-, hf⟩
  · exact aFr.tr aFr.rf (F_X11_mean_42_b107 v2 v3 v5 S hf)
  · obtain ⟨-, hf⟩ := aGdE hf
    obtain ⟨-, hf⟩ := aGdE hf
    obtain ⟨w12, ew13, hf⟩ := aBnE hf
    obtain ⟨-, hf⟩ := aGdE hf
    obtain ⟨-, hf⟩ := aGdE hf
    exact aFr.tr aFr.rf (hrec36 v2 (v3 + ((((S.2.2 56) ((S.2.2 57) v8.toNatClampNeg).toNatClampNeg).toInt64) * ((v7 + w12).toInt64))) (v5 + (((S.2.2 56) ((S.2.2 57) v8.toNatClampNeg).toNatClampNeg).toInt64)) (v7 + w12) (v8 + (1 : Int32)) S hf)
theorem F_X11_mean_42_l36 {N : Nat} : ∀ (n : Nat) (v2 : Int32) (v3 : Int64) (v5 : Int64) (v7 : Int32) (v8 : Int32) (S : aSt) {r : Int32 × aSt}, X11_mean_42_l36 N n v2 v3 v5 v7 v8 S = (some r) → aFr W_X11_mean_42 S r.2
  | 0, _, _, _, _, _, _, _, h => nomatch (show (none : Option (Int32 × aSt)) = some _ from h)
  | n + 1, v2, v3, v5, v7, v8, S, _, h => F_X11_mean_42_b36 (fun v2 v3 v5 v7 v8 S _ h => F_X11_mean_42_l36 n v2 v3 v5 v7 v8 S h) v2 v3 v5 v7 v8 S h
theorem F_X11_mean_42 (N : Nat) (a1 : Int32) (a2 : Int32) (S : aSt) {r : Int32 × aSt} (hf : X11_mean_42 N a1 a2 S = (some r)) : aFr W_X11_mean_42 S r.2 := by
  unfold X11_mean_42 at hf
  obtain ⟨w1, ew2, hf⟩ := aBnE hf
  rcases aIfE hf with ⟨-, hf⟩ | ⟨-, hf⟩
  · have e9 := Option.some.inj hf; subst e9
    exact aFr.rf
  · obtain ⟨w4, ew5, hf⟩ := aBnE hf
    have hw4 : aFr W_X11_mean_42 S w4 := aFr.tr aFr.rf ((F_X11_layLooks_42 N a1 S ew5).mono (by decide))
    rcases aIfE hf with ⟨-, hf⟩ | ⟨-, hf⟩
    · have e9 := Option.some.inj hf; subst e9
      exact hw4
    · exact aFr.tr hw4 (F_X11_mean_42_l36 N a2 (0 : Int64) (0 : Int64) (0 : Int32) (0 : Int32) w4 hf)
def W_X11_mend_42 : aWr := ([], [], [45])
theorem F_X11_mend_42 (N : Nat) (a1 : Int32) (a2 : Int32) (a3 : Int32) (S : aSt) {r : Int32 × aSt} (hf : X11_mend_42 N a1 a2 a3 S = (some r)) : aFr W_X11_mend_42 S r.2 := by
  unfold X11_mend_42 at hf
  obtain ⟨w1, ew2, hf⟩ := aBnE hf
  rcases aIfE hf with ⟨-, hf⟩ | ⟨-, hf⟩
  · have e9 := Option.some.inj hf; subst e9
    exact aFr.rf
  · obtain ⟨w4, ew5, hf⟩ := aLetE hf
    rcases aIfE hf with ⟨-, hf⟩ | ⟨-, hf⟩
    · have e9 := Option.some.inj hf; subst e9
      exact aFr.rf
    · obtain ⟨w7, ew8, hf⟩ := aLetE hf
      rcases aIfE hf with ⟨-, hf⟩ | ⟨-, hf⟩
      · have e9 := Option.some.inj hf; subst e9
        exact aFr.rf
      · obtain ⟨-, hf⟩ := aGdE hf
        obtain ⟨-, hf⟩ := aGdE hf
        obtain ⟨w12, ew13, hf⟩ := aBnE hf
        have e9 := Option.some.inj hf; subst e9
        exact (aFr.A (aFr.A aFr.rf 45 _ (by decide)) 45 _ (by decide))
def W_X11_ofKind_42 : aWr := ([(42, 23), (42, 25)], [], [50, 51, 52, 53, 54, 55])
theorem F_X11_ofKind_42_b53 {N : Nat} {rec24 : Int32 → Int32 → Int32 → aSt → Option (Int32 × aSt)} (hrec24 : ∀ (v1 : Int32) (v2 : Int32) (v3 : Int32) (S : aSt) {r : Int32 × aSt}, rec24 v1 v2 v3 S = (some r) → aFr W_X11_ofKind_42 S r.2) (v1 : Int32) (v3 : Int32) (s0 : Int32) (s1 : Int32) (S : aSt) {r : Int32 × aSt} (hf : X11_ofKind_42_b53 N rec24 v1 v3 s0 s1 S = (some r)) : aFr W_X11_ofKind_42 S r.2 := by
  unfold X11_ofKind_42_b53 at hf
  exact aFr.tr aFr.rf (hrec24 v1 (s1 + s0) (v3 + (1 : Int32)) S hf)
theorem F_X11_ofKind_42_b24 {N : Nat} {rec24 : Int32 → Int32 → Int32 → aSt → Option (Int32 × aSt)} (hrec24 : ∀ (v1 : Int32) (v2 : Int32) (v3 : Int32) (S : aSt) {r : Int32 × aSt}, rec24 v1 v2 v3 S = (some r) → aFr W_X11_ofKind_42 S r.2) (v1 : Int32) (v2 : Int32) (v3 : Int32) (S : aSt) {r : Int32 × aSt} (hf : X11_ofKind_42_b24 N rec24 v1 v2 v3 S = (some r)) : aFr W_X11_ofKind_42 S r.2 := by
  unfold X11_ofKind_42_b24 at hf
  rcases aIfE hf with ⟨-, hf⟩ | ⟨-, hf⟩
  · have e9 := Option.some.inj hf; subst e9
    exact aFr.rf
  · obtain ⟨-, hf⟩ := aGdE hf
    obtain ⟨-, hf⟩ := aGdE hf
    rcases aIfE hf with ⟨-, hf⟩ | ⟨-, hf⟩
    · exact aFr.tr aFr.rf (F_X11_ofKind_42_b53 hrec24 v1 v3 (1 : Int32) v2 S hf)
    · exact aFr.tr aFr.rf (F_X11_ofKind_42_b53 hrec24 v1 v3 (0 : Int32) v2 S hf)
theorem F_X11_ofKind_42_l24 {N : Nat} : ∀ (n : Nat) (v1 : Int32) (v2 : Int32) (v3 : Int32) (S : aSt) {r : Int32 × aSt}, X11_ofKind_42_l24 N n v1 v2 v3 S = (some r) → aFr W_X11_ofKind_42 S r.2
  | 0, _, _, _, _, _, h => nomatch (show (none : Option (Int32 × aSt)) = some _ from h)
  | n + 1, v1, v2, v3, S, _, h => F_X11_ofKind_42_b24 (fun v1 v2 v3 S _ h => F_X11_ofKind_42_l24 n v1 v2 v3 S h) v1 v2 v3 S h
theorem F_X11_ofKind_42 (N : Nat) (a1 : Int32) (S : aSt) {r : Int32 × aSt} (hf : X11_ofKind_42 N a1 S = (some r)) : aFr W_X11_ofKind_42 S r.2 := by
  unfold X11_ofKind_42 at hf
  obtain ⟨w1, ew2, hf⟩ := aLetE hf
  rcases aIfE hf with ⟨-, hf⟩ | ⟨-, hf⟩
  · have e9 := Option.some.inj hf; subst e9
    exact aFr.rf
  · obtain ⟨w4, ew5, hf⟩ := aBnE hf
    have hw4 : aFr W_X11_ofKind_42 S w4 := aFr.tr aFr.rf ((F_X11_layOnes_42 N (0 : Int32) S ew5).mono (by decide))
    exact aFr.tr hw4 (F_X11_ofKind_42_l24 N a1 (0 : Int32) (0 : Int32) w4 hf)
def W_X11_one_42 : aWr := ([(42, 23), (42, 25)], [], [50, 51, 52, 53, 54, 55])
theorem F_X11_one_42_b38 {N : Nat} (v1 : Int32) (S : aSt) {r : Int32 × aSt} (hf : X11_one_42_b38 N v1 S = (some r)) : aFr W_X11_one_42 S r.2 := by
  unfold X11_one_42_b38 at hf
  rcases aIfE hf with ⟨-, hf⟩ | ⟨-, hf⟩
  · have e9 := Option.some.inj hf; subst e9
    exact aFr.rf
  · have e9 := Option.some.inj hf; subst e9
    exact aFr.rf
theorem F_X11_one_42 (N : Nat) (a1 : Int32) (a2 : Int32) (a3 : Int32) (S : aSt) {r : Int32 × aSt} (hf : X11_one_42 N a1 a2 a3 S = (some r)) : aFr W_X11_one_42 S r.2 := by
  unfold X11_one_42 at hf
  rcases aIfE hf with ⟨-, hf⟩ | ⟨-, hf⟩
  · have e9 := Option.some.inj hf; subst e9
    exact aFr.rf
  · obtain ⟨w2, ew3, hf⟩ := aLetE hf
    rcases aIfE hf with ⟨-, hf⟩ | ⟨-, hf⟩
    · have e9 := Option.some.inj hf; subst e9
      exact aFr.rf
    · obtain ⟨w5, ew6, hf⟩ := aBnE hf
      have hw5 : aFr W_X11_one_42 S w5 := aFr.tr aFr.rf ((F_X11_layOnes_42 N a3 S ew6).mono (by decide))
      rcases aIfE hf with ⟨-, hf⟩ | ⟨-, hf⟩
      · exact aFr.tr hw5 (F_X11_one_42_b38 a1 w5 hf)
      · rcases aIfE hf with ⟨-, hf⟩ | ⟨-, hf⟩
        · obtain ⟨-, hf⟩ := aGdE hf
          rcases aIfE hf with ⟨-, hf⟩ | ⟨-, hf⟩
          · obtain ⟨-, hf⟩ := aGdE hf
            have e9 := Option.some.inj hf; subst e9
            exact hw5
          · rcases aIfE hf with ⟨-, hf⟩ | ⟨-, hf⟩
            · obtain ⟨-, hf⟩ := aGdE hf
              have e9 := Option.some.inj hf; subst e9
              exact hw5
            · rcases aIfE hf with ⟨-, hf⟩ | ⟨-, hf⟩
              · obtain ⟨-, hf⟩ := aGdE hf
                have e9 := Option.some.inj hf; subst e9
                exact hw5
              · rcases aIfE hf with ⟨-, hf⟩ | ⟨-, hf⟩
                · obtain ⟨-, hf⟩ := aGdE hf
                  have e9 := Option.some.inj hf; subst e9
                  exact hw5
                · obtain ⟨-, hf⟩ := aGdE hf
                  have e9 := Option.some.inj hf; subst e9
                  exact hw5
        · exact aFr.tr hw5 (F_X11_one_42_b38 a1 w5 hf)
def W_X11_other_42 : aWr := ([(42, 14)], [], [49])
theorem F_X11_other_42 (N : Nat) (a1 : Int32) (S : aSt) {r : Int32 × aSt} (hf : X11_other_42 N a1 S = (some r)) : aFr W_X11_other_42 S r.2 := by
  unfold X11_other_42 at hf
  obtain ⟨w1, ew2, hf⟩ := aLetE hf
  rcases aIfE hf with ⟨-, hf⟩ | ⟨-, hf⟩
  · have e9 := Option.some.inj hf; subst e9
    exact aFr.rf
  · rcases aIfE hf with ⟨-, hf⟩ | ⟨-, hf⟩
    · have e9 := Option.some.inj hf; subst e9
      exact aFr.rf
    · obtain ⟨-, hf⟩ := aGdE hf
      have e9 := Option.some.inj hf; subst e9
      exact (aFr.I (aFr.A aFr.rf 49 _ (by decide)) 42 14 _ (by decide))
def W_X11_pair_42 : aWr := ([(42, 23), (42, 28), (42, 29)], [(42, 26), (42, 27)], [50, 51, 52, 53, 54])
theorem F_X11_pair_42_b46 {N : Nat} (v2 : Int32) (s0 : Int32) (S : aSt) {r : Int32 × aSt} (hf : X11_pair_42_b46 N v2 s0 S = (some r)) : aFr W_X11_pair_42 S r.2 := by
  unfold X11_pair_42_b46 at hf
  rcases aIfE hf with ⟨-, hf⟩ | ⟨-, hf⟩
  · obtain ⟨-, hf⟩ := aGdE hf
    have e9 := Option.some.inj hf; subst e9
    exact aFr.rf
  · rcases aIfE hf with ⟨-, hf⟩ | ⟨-, hf⟩
    · obtain ⟨-, hf⟩ := aGdE hf
      have e9 := Option.some.inj hf; subst e9
      exact aFr.rf
    · obtain ⟨-, hf⟩ := aGdE hf
      have e9 := Option.some.inj hf; subst e9
      exact aFr.rf
theorem F_X11_pair_42 (N : Nat) (a1 : Int32) (a2 : Int32) (S : aSt) {r : Int32 × aSt} (hf : X11_pair_42 N a1 a2 S = (some r)) : aFr W_X11_pair_42 S r.2 := by
  unfold X11_pair_42 at hf
  obtain ⟨w1, ew2, hf⟩ := aLetE hf
  rcases aIfE hf with ⟨-, hf⟩ | ⟨-, hf⟩
  · have e9 := Option.some.inj hf; subst e9
    exact aFr.rf
  · obtain ⟨w4, ew5, hf⟩ := aBnE hf
    have hw4 : aFr W_X11_pair_42 S w4 := aFr.tr aFr.rf ((F_X11_layTwo_42 N a1 S ew5).mono (by decide))
    rcases aIfE hf with ⟨-, hf⟩ | ⟨-, hf⟩
    · have e9 := Option.some.inj hf; subst e9
      exact hw4
    · rcases aIfE hf with ⟨-, hf⟩ | ⟨-, hf⟩
      · exact aFr.tr hw4 (F_X11_pair_42_b46 a2 (w4.1 42 29) w4 hf)
      · exact aFr.tr hw4 (F_X11_pair_42_b46 a2 (w4.1 42 28) w4 hf)
def W_X11_strike_42 : aWr := ([(42, 5)], [], [45])
theorem F_X11_strike_42_b47 {N : Nat} (S : aSt) {r : Int32 × aSt} (hf : X11_strike_42_b47 N S = (some r)) : aFr W_X11_strike_42 S r.2 := by
  unfold X11_strike_42_b47 at hf
  have e9 := Option.some.inj hf; subst e9
  exact (aFr.I aFr.rf 42 5 _ (by decide))
theorem F_X11_strike_42_b15 {N : Nat} {rec15 : Int32 → aSt → Option (Int32 × aSt)} (hrec15 : ∀ (v2 : Int32) (S : aSt) {r : Int32 × aSt}, rec15 v2 S = (some r) → aFr W_X11_strike_42 S r.2) (v2 : Int32) (S : aSt) {r : Int32 × aSt} (hf : X11_strike_42_b15 N rec15 v2 S = (some r)) : aFr W_X11_strike_42 S r.2 := by
  unfold X11_strike_42_b15 at hf
  rcases aIfE hf with ⟨-, hf⟩ | ⟨-, hf⟩
  · exact aFr.tr aFr.rf (F_X11_strike_42_b47 S hf)
  · obtain ⟨-, hf⟩ := aGdE hf
    obtain ⟨-, hf⟩ := aGdE hf
    exact aFr.tr (aFr.A aFr.rf 45 _ (by decide)) (hrec15 (v2 + (1 : Int32)) (aA S 45 (upd (S.2.2 45) v2.toNatClampNeg ((S.2.2 45) (v2 + (5 : Int32)).toNatClampNeg))) hf)
theorem F_X11_strike_42_l15 {N : Nat} : ∀ (n : Nat) (v2 : Int32) (S : aSt) {r : Int32 × aSt}, X11_strike_42_l15 N n v2 S = (some r) → aFr W_X11_strike_42 S r.2
  | 0, _, _, _, h => nomatch (show (none : Option (Int32 × aSt)) = some _ from h)
  | n + 1, v2, S, _, h => F_X11_strike_42_b15 (fun v2 S _ h => F_X11_strike_42_l15 n v2 S h) v2 S h
theorem F_X11_strike_42 (N : Nat) (a1 : Int32) (S : aSt) {r : Int32 × aSt} (hf : X11_strike_42 N a1 S = (some r)) : aFr W_X11_strike_42 S r.2 := by
  unfold X11_strike_42 at hf
  obtain ⟨w1, ew2, hf⟩ := aBnE hf
  rcases aIfE hf with ⟨-, hf⟩ | ⟨-, hf⟩
  · have e9 := Option.some.inj hf; subst e9
    exact aFr.rf
  · exact aFr.tr aFr.rf (F_X11_strike_42_l15 N ((5 : Int32) * a1) S hf)
def W_X11_two_42 : aWr := ([(42, 23), (42, 28), (42, 29)], [(42, 26), (42, 27)], [50, 51, 52, 53, 54])
theorem F_X11_two_42 (N : Nat) (a1 : Int32) (S : aSt) {r : Int64 × aSt} (hf : X11_two_42 N a1 S = (some r)) : aFr W_X11_two_42 S r.2 := by
  unfold X11_two_42 at hf
  obtain ⟨w1, ew2, hf⟩ := aLetE hf
  rcases aIfE hf with ⟨-, hf⟩ | ⟨-, hf⟩
  · have e9 := Option.some.inj hf; subst e9
    exact aFr.rf
  · obtain ⟨w4, ew5, hf⟩ := aBnE hf
    have hw4 : aFr W_X11_two_42 S w4 := aFr.tr aFr.rf ((F_X11_layTwo_42 N (0 : Int32) S ew5).mono (by decide))
    rcases aIfE hf with ⟨-, hf⟩ | ⟨-, hf⟩
    · have e9 := Option.some.inj hf; subst e9
      exact hw4
    · have e9 := Option.some.inj hf; subst e9
      exact hw4
def W_X11_whose_42 : aWr := ([(42, 23), (42, 25)], [], [50, 51, 52, 53, 54, 55])
theorem F_X11_whose_42_b110 {N : Nat} (v2 : Int32) (v3 : Int64) (S : aSt) {r : Int32 × aSt} (hf : X11_whose_42_b110 N v2 v3 S = (some r)) : aFr W_X11_whose_42 S r.2 := by
  unfold X11_whose_42_b110 at hf
  obtain ⟨w11, ew12, hf⟩ := aBnE hf
  obtain ⟨w13, ew14, hf⟩ := aBnE hf
  have e9 := Option.some.inj hf; subst e9
  exact aFr.rf
theorem F_X11_whose_42_b102 {N : Nat} {rec40 : Int32 → Int32 → Int64 → Int32 → aSt → Option (Int32 × aSt)} (hrec40 : ∀ (v1 : Int32) (v2 : Int32) (v3 : Int64) (v5 : Int32) (S : aSt) {r : Int32 × aSt}, rec40 v1 v2 v3 v5 S = (some r) → aFr W_X11_whose_42 S r.2) (v1 : Int32) (v2 : Int32) (v5 : Int32) (s0 : Int64) (s1 : Int64) (S : aSt) {r : Int32 × aSt} (hf : X11_whose_42_b102 N rec40 v1 v2 v5 s0 s1 S = (some r)) : aFr W_X11_whose_42 S r.2 := by
  unfold X11_whose_42_b102 at hf
  exact aFr.tr aFr.rf (hrec40 v1 v2 (s1 + s0) (v5 + (1 : Int32)) S hf)
theorem F_X11_whose_42_b101 {N : Nat} {rec40 : Int32 → Int32 → Int64 → Int32 → aSt → Option (Int32 × aSt)} (hrec40 : ∀ (v1 : Int32) (v2 : Int32) (v3 : Int64) (v5 : Int32) (S : aSt) {r : Int32 × aSt}, rec40 v1 v2 v3 v5 S = (some r) → aFr W_X11_whose_42 S r.2) (v1 : Int32) (v2 : Int32) (v5 : Int32) (s0 : Int64) (S : aSt) {r : Int32 × aSt} (hf : X11_whose_42_b101 N rec40 v1 v2 v5 s0 S = (some r)) : aFr W_X11_whose_42 S r.2 := by
  unfold X11_whose_42_b101 at hf
  exact aFr.tr aFr.rf (F_X11_whose_42_b102 hrec40 v1 v2 v5 (0 : Int64) s0 S hf)
theorem F_X11_whose_42_b40 {N : Nat} {rec40 : Int32 → Int32 → Int64 → Int32 → aSt → Option (Int32 × aSt)} (hrec40 : ∀ (v1 : Int32) (v2 : Int32) (v3 : Int64) (v5 : Int32) (S : aSt) {r : Int32 × aSt}, rec40 v1 v2 v3 v5 S = (some r) → aFr W_X11_whose_42 S r.2) (v1 : Int32) (v2 : Int32) (v3 : Int64) (v5 : Int32) (S : aSt) {r : Int32 × aSt} (hf : X11_whose_42_b40 N rec40 v1 v2 v3 v5 S = (some r)) : aFr W_X11_whose_42 S r.2 := by
  unfold X11_whose_42_b40 at hf
  rcases aIfE hf with ⟨-, hf⟩ | ⟨-, hf⟩
  · exact aFr.tr aFr.rf (F_X11_whose_42_b110 v2 v3 S hf)
  · obtain ⟨-, hf⟩ := aGdE hf
    obtain ⟨-, hf⟩ := aGdE hf
    rcases aIfE hf with ⟨-, hf⟩ | ⟨-, hf⟩
    · exact aFr.tr aFr.rf (F_X11_whose_42_b101 hrec40 v1 v2 v5 v3 S hf)
    · obtain ⟨-, hf⟩ := aGdE hf
      obtain ⟨-, hf⟩ := aGdE hf
      rcases aIfE hf with ⟨-, hf⟩ | ⟨-, hf⟩
      · obtain ⟨-, hf⟩ := aGdE hf
        exact aFr.tr aFr.rf (F_X11_whose_42_b102 hrec40 v1 v2 v5 (((S.2.2 54) ((S.2.2 55) v5.toNatClampNeg).toNatClampNeg).toInt64) v3 S hf)
      · exact aFr.tr aFr.rf (F_X11_whose_42_b101 hrec40 v1 v2 v5 v3 S hf)
theorem F_X11_whose_42_l40 {N : Nat} : ∀ (n : Nat) (v1 : Int32) (v2 : Int32) (v3 : Int64) (v5 : Int32) (S : aSt) {r : Int32 × aSt}, X11_whose_42_l40 N n v1 v2 v3 v5 S = (some r) → aFr W_X11_whose_42 S r.2
  | 0, _, _, _, _, _, _, h => nomatch (show (none : Option (Int32 × aSt)) = some _ from h)
  | n + 1, v1, v2, v3, v5, S, _, h => F_X11_whose_42_b40 (fun v1 v2 v3 v5 S _ h => F_X11_whose_42_l40 n v1 v2 v3 v5 S h) v1 v2 v3 v5 S h
theorem F_X11_whose_42 (N : Nat) (a1 : Int32) (a2 : Int32) (S : aSt) {r : Int32 × aSt} (hf : X11_whose_42 N a1 a2 S = (some r)) : aFr W_X11_whose_42 S r.2 := by
  unfold X11_whose_42 at hf
  obtain ⟨w1, ew2, hf⟩ := aBnE hf
  rcases aIfE hf with ⟨-, hf⟩ | ⟨-, hf⟩
  · have e9 := Option.some.inj hf; subst e9
    exact aFr.rf
  · obtain ⟨w4, ew5, hf⟩ := aBnE hf
    rcases aIfE hf with ⟨-, hf⟩ | ⟨-, hf⟩
    · have e9 := Option.some.inj hf; subst e9
      exact aFr.rf
    · obtain ⟨w7, ew8, hf⟩ := aBnE hf
      have hw7 : aFr W_X11_whose_42 S w7 := aFr.tr aFr.rf ((F_X11_layOnes_42 N (0 : Int32) S ew8).mono (by decide))
      rcases aIfE hf with ⟨-, hf⟩ | ⟨-, hf⟩
      · have e9 := Option.some.inj hf; subst e9
        exact hw7
      · exact aFr.tr hw7 (F_X11_whose_42_l40 N a1 a2 (0 : Int64) (0 : Int32) w7 hf)
def W_X11_write_42 : aWr := ([(42, 1)], [], [43])
theorem F_X11_write_42_b33 {N : Nat} {rec33 : Int64 → Int32 → Int32 → aSt → Option (Int32 × aSt)} (hrec33 : ∀ (v1 : Int64) (v3 : Int32) (v4 : Int32) (S : aSt) {r : Int32 × aSt}, rec33 v1 v3 v4 S = (some r) → aFr W_X11_write_42 S r.2) (v1 : Int64) (v3 : Int32) (v4 : Int32) (S : aSt) {r : Int32 × aSt} (hf : X11_write_42_b33 N rec33 v1 v3 v4 S = (some r)) : aFr W_X11_write_42 S r.2 := by
  unfold X11_write_42_b33 at hf
  rcases aIfE hf with ⟨-, hf⟩ | ⟨-, hf⟩
  · have e9 := Option.some.inj hf; subst e9
    exact aFr.rf
  · obtain ⟨-, hf⟩ := aGdE hf
    exact aFr.tr (aFr.I (aFr.A aFr.rf 43 _ (by decide)) 42 1 _ (by decide)) (hrec33 v1 v3 (v4 + (1 : Int32)) (aI (aA S 43 (upd (S.2.2 43) (S.1 42 1).toNatClampNeg (((v1 >>> (((8 : Int32) * v4).toInt64 &&& 63)) &&& (255 : Int64)).toInt32))) 42 1 ((S.1 42 1) + (1 : Int32))) hf)
theorem F_X11_write_42_l33 {N : Nat} : ∀ (n : Nat) (v1 : Int64) (v3 : Int32) (v4 : Int32) (S : aSt) {r : Int32 × aSt}, X11_write_42_l33 N n v1 v3 v4 S = (some r) → aFr W_X11_write_42 S r.2
  | 0, _, _, _, _, _, h => nomatch (show (none : Option (Int32 × aSt)) = some _ from h)
  | n + 1, v1, v3, v4, S, _, h => F_X11_write_42_b33 (fun v1 v3 v4 S _ h => F_X11_write_42_l33 n v1 v3 v4 S h) v1 v3 v4 S h
theorem F_X11_write_42 (N : Nat) (a1 : Int64) (a3 : Int32) (S : aSt) {r : Int32 × aSt} (hf : X11_write_42 N a1 a3 S = (some r)) : aFr W_X11_write_42 S r.2 := by
  unfold X11_write_42 at hf
  obtain ⟨w1, ew2, hf⟩ := aLetE hf
  rcases aIfE hf with ⟨-, hf⟩ | ⟨-, hf⟩
  · have e9 := Option.some.inj hf; subst e9
    exact aFr.rf
  · rcases aIfE hf with ⟨-, hf⟩ | ⟨-, hf⟩
    · exact aFr.tr aFr.rf (F_X11_write_42_l33 N a1 a3 (0 : Int32) S hf)
    · have e9 := Option.some.inj hf; subst e9
      exact aFr.rf
