def X9_valueOf_1_b15 (N : Nat) (S : aSt) (rec15 : Int32 → Int32 → Int32 → Option (Int32)) (v2 : Int32) (v3 : Int32) (v4 : Int32) : Option (Int32) := (if v2 ≤ v4 then some (v3) else (aLet (X6_at_2 v4 S) (fun w3 => (rec15 v2 (((v3 * (10 : Int32)) + w3) - (48 : Int32)) (v4 + (1 : Int32))))))
set_option maxHeartbeats 4000000 in
set_option maxRecDepth 100000 in
theorem X9_valueOf_1_b15_ok {C : aC} {N : Nat} {S : aSt} {rec15 : Int32 → Int32 → Int32 → Option (Int32)} (hC : aCx C M_X9_valueOf) {r : Int32} (hF : aFin C (some (.int r)) LAY S 0 0) (hrec15 : ∀ (v2 : Int32) (v3 : Int32) (v4 : Int32), rec15 v2 v3 v4 = (some r) → aX C M_X9_valueOf 0 0 (15, [(0, .ref 1), (2, .int v2), (3, .int v3), (4, .int v4)], [], LAY, S)) (v2 : Int32) (v3 : Int32) (v4 : Int32) (hf : X9_valueOf_1_b15 N S rec15 v2 v3 v4 = (some r)) : aX C M_X9_valueOf 0 0 (15, [(0, .ref 1), (2, .int v2), (3, .int v3), (4, .int v4)], [], LAY, S) := by
  have hT := ok_X9_valueOf
  unfold X9_valueOf_1_b15 at hf
  refine aRun_ok hC hT 2 (cf' := (18, [(0, .ref 1), (2, .int v2), (3, .int v3), (4, .int v4)], [.int v2, .int v4], LAY, S)) (by rfl) ?_
  refine aCmp_ge hC hT (tgt := 45) rfl (by decide) (fun hc2 => ?_) (fun hc2 => ?_)
  · have hf := aIfT hf hc2
    refine aRun_ok hC hT 1 (cf' := (46, [(0, .ref 1), (2, .int v2), (3, .int v3), (4, .int v4)], [.int v3], LAY, S)) (by rfl) ?_
    have e9 := Option.some.inj hf; subst e9
    exact aRetI hC hT hF rfl rfl
  · have hf := aIfF hf hc2
    refine aRun_ok hC hT 6 (cf' := (31, [(0, .ref 1), (2, .int v2), (3, .int v3), (4, .int v4)], [.int v4, .ref 2, .int (v3 * (10 : Int32))], LAY, S)) (by rfl) ?_
    obtain ⟨w3, ew4, hf⟩ := aLetE hf
    refine aCallS (As := [.ref 2, .int v4]) (rest := [.int (v3 * (10 : Int32))]) hC hT rfl k_X9_valueOf_40.1 _ k_X9_valueOf_40.2 (by rfl) (Nat.le_of_ble_eq_true rfl) (by decide) (J_X6_at_2 C.2.2.1 C.1 v4 S ew4) ?_
    refine aRun_ok hC hT 6 (cf' := (15, [(4, .int (v4 + (1 : Int32))), (3, .int (((v3 * (10 : Int32)) + w3) - (48 : Int32))), (0, .ref 1), (2, .int v2)], [], LAY, S)) (by rfl) ?_
    refine aLocs [2, 3, 1, 0] (lv' := [(0, .ref 1), (2, .int v2), (3, .int (((v3 * (10 : Int32)) + w3) - (48 : Int32))), (4, .int (v4 + (1 : Int32)))]) rfl ?_
    exact hrec15 v2 (((v3 * (10 : Int32)) + w3) - (48 : Int32)) (v4 + (1 : Int32)) hf
def X9_valueOf_1_l15 (N : Nat) (S : aSt) : Nat → Int32 → Int32 → Int32 → Option (Int32)
  | 0 => fun _ _ _ => none
  | n + 1 => X9_valueOf_1_b15 N S (X9_valueOf_1_l15 N S n)
theorem X9_valueOf_1_l15_ok {C : aC} {N : Nat} {S : aSt} (hC : aCx C M_X9_valueOf) {r : Int32} (hF : aFin C (some (.int r)) LAY S 0 0) : ∀ (n : Nat) (v2 : Int32) (v3 : Int32) (v4 : Int32), X9_valueOf_1_l15 N S n v2 v3 v4 = (some r) → aX C M_X9_valueOf 0 0 (15, [(0, .ref 1), (2, .int v2), (3, .int v3), (4, .int v4)], [], LAY, S)
  | 0, _, _, _,  h => nomatch (show (none : Option (Int32)) = some _ from h)
  | n + 1, v2, v3, v4,  h => X9_valueOf_1_b15_ok hC hF (fun v2 v3 v4 h => X9_valueOf_1_l15_ok hC hF n v2 v3 v4 h) v2 v3 v4 h
def X9_valueOf_1 (N : Nat) (a1 : Int32) (a2 : Int32) (S : aSt) : Option (Int32) := (if (a2 - a1) ≤ (6 : Int32) then (X9_valueOf_1_l15 N S N a2 (0 : Int32) a1) else some (((-1) : Int32)))
set_option maxHeartbeats 4000000 in
set_option maxRecDepth 100000 in
theorem J_X9_valueOf_1 (l : Launch) (g : aWg) (N : Nat) (a1 : Int32) (a2 : Int32) (S : aSt) {r : Int32} (hf : X9_valueOf_1 N a1 a2 S = (some r)) : aJ l g yX9_valueOf M_X9_valueOf [.ref 1, .int a1, .int a2] LAY S (some (.int r)) LAY S 0 0 := by
  refine aJ_of (by decide +kernel) rfl (Nat.le_of_ble_eq_true rfl) (fun h => nomatch h) ?_
  intro C hg hl hC hz hF
  subst hg; subst hl
  have hT := ok_X9_valueOf
  unfold X9_valueOf_1 at hf
  show aX C M_X9_valueOf 0 0 (0, [(0, .ref 1), (1, .int a1), (2, .int a2)], [], LAY, S)
  refine aRun_ok hC hT 4 (cf' := (5, [(0, .ref 1), (1, .int a1), (2, .int a2)], [.int (6 : Int32), .int (a2 - a1)], LAY, S)) (by rfl) ?_
  refine aCmp_le hC hT (tgt := 10) rfl (by decide) (fun hc1 => ?_) (fun hc1 => ?_)
  · have hf := aIfT hf hc1
    refine aRun_ok hC hT 4 (cf' := (15, [(4, .int a1), (3, .int (0 : Int32)), (0, .ref 1), (1, .int a1), (2, .int a2)], [], LAY, S)) (by rfl) ?_
    refine aLocs [2, 4, 1, 0] (lv' := [(0, .ref 1), (2, .int a2), (3, .int (0 : Int32)), (4, .int a1)]) rfl ?_
    exact X9_valueOf_1_l15_ok hC hF N a2 (0 : Int32) a1 hf
  · have hf := aIfF hf hc1
    refine aRun_ok hC hT 1 (cf' := (9, [(0, .ref 1), (1, .int a1), (2, .int a2)], [.int ((-1) : Int32)], LAY, S)) (by rfl) ?_
    have e9 := Option.some.inj hf; subst e9
    exact aRetI hC hT hF rfl rfl
def X9_setToken_1_b139 (N : Nat) (s0 : Int32) (s1 : Int32) (S : aSt) : Option (aSt) := (aLet (X6_set_3 s1 s0 S) (fun w16 => some (w16)))
set_option maxHeartbeats 4000000 in
set_option maxRecDepth 100000 in
theorem X9_setToken_1_b139_ok {C : aC} {N : Nat} (hC : aCx C M_X9_setToken) {r : aSt} (hF : aFin C none LAY r 0 0) (s0 : Int32) (s1 : Int32) (S : aSt) (hf : X9_setToken_1_b139 N s0 s1 S = (some r)) : aX C M_X9_setToken 0 0 (139, [], [.int s0, .int s1, .ref 3], LAY, S) := by
  have hT := ok_X9_setToken
  unfold X9_setToken_1_b139 at hf
  obtain ⟨w16, ew17, hf⟩ := aLetE hf
  refine aCallS (As := [.ref 3, .int s1, .int s0]) (rest := []) hC hT rfl k_X9_setToken_34.1 _ k_X9_setToken_34.2 (by rfl) (Nat.le_of_ble_eq_true rfl) (by decide) (J_X6_set_3 C.2.2.1 C.1 s1 s0 S ew17) ?_
  have e9 := Option.some.inj hf; subst e9
  exact aRetV hC hT hF rfl rfl
def X9_setToken_1_b73 (N : Nat) (v1 : Int32) (v2 : Int32) (v3 : Int32) (v4 : Int32) (s0 : Int32) (s1 : Int32) (S : aSt) : Option (aSt) := (aLet (X6_set_5 s1 s0 S) (fun w9 => (if v3 = (1 : Int32) then (Option.bind (X9_wordOf_1 N v2 v4 w9) (fun w20 => (aLet (X6_set_3 v1 w20 w9) (fun w22 => some (w22))))) else (if v3 = (2 : Int32) then (aLet (X6_set_3 v1 (1 : Int32) w9) (fun w18 => some (w18))) else (aLet (X6_at_2 v2 w9) (fun w13 => (if w13 = (59 : Int32) then (X9_setToken_1_b139 N (2 : Int32) v1 w9) else (X9_setToken_1_b139 N (3 : Int32) v1 w9))))))))
set_option maxHeartbeats 4000000 in
set_option maxRecDepth 100000 in
theorem X9_setToken_1_b73_ok {C : aC} {N : Nat} (hC : aCx C M_X9_setToken) {r : aSt} (hF : aFin C none LAY r 0 0) (v1 : Int32) (v2 : Int32) (v3 : Int32) (v4 : Int32) (s0 : Int32) (s1 : Int32) (S : aSt) (hf : X9_setToken_1_b73 N v1 v2 v3 v4 s0 s1 S = (some r)) : aX C M_X9_setToken 0 0 (73, [(0, .ref 1), (1, .int v1), (2, .int v2), (3, .int v3), (4, .int v4)], [.int s0, .int s1, .ref 5], LAY, S) := by
  have hT := ok_X9_setToken
  unfold X9_setToken_1_b73 at hf
  obtain ⟨w9, ew10, hf⟩ := aLetE hf
  refine aCallS (As := [.ref 5, .int s1, .int s0]) (rest := []) hC hT rfl k_X9_setToken_34.1 _ k_X9_setToken_34.2 (by rfl) (Nat.le_of_ble_eq_true rfl) (by decide) (J_X6_set_5 C.2.2.1 C.1 s1 s0 S ew10) ?_
  refine aRun_ok hC hT 2 (cf' := (78, [(0, .ref 1), (1, .int v1), (2, .int v2), (3, .int v3), (4, .int v4)], [.int (1 : Int32), .int v3], LAY, w9)) (by rfl) ?_
  refine aCmp_ne hC hT (tgt := 99) rfl (by decide) (fun hc11 => ?_) (fun hc11 => ?_)
  · have hf := aIfF hf hc11
    refine aRun_ok hC hT 2 (cf' := (101, [(0, .ref 1), (1, .int v1), (2, .int v2), (3, .int v3), (4, .int v4)], [.int (2 : Int32), .int v3], LAY, w9)) (by rfl) ?_
    refine aCmp_ne hC hT (tgt := 116) rfl (by decide) (fun hc12 => ?_) (fun hc12 => ?_)
    · have hf := aIfF hf hc12
      refine aRun_ok hC hT 6 (cf' := (126, [(0, .ref 1), (1, .int v1), (2, .int v2), (3, .int v3), (4, .int v4)], [.int v2, .ref 2, .int v1, .ref 3], LAY, w9)) (by rfl) ?_
      obtain ⟨w13, ew14, hf⟩ := aLetE hf
      refine aCallS (As := [.ref 2, .int v2]) (rest := [.int v1, .ref 3]) hC hT rfl k_X9_setToken_40.1 _ k_X9_setToken_40.2 (by rfl) (Nat.le_of_ble_eq_true rfl) (by decide) (J_X6_at_2 C.2.2.1 C.1 v2 w9 ew14) ?_
      refine aRun_ok hC hT 1 (cf' := (131, [(0, .ref 1), (1, .int v1), (2, .int v2), (3, .int v3), (4, .int v4)], [.int (59 : Int32), .int w13, .int v1, .ref 3], LAY, w9)) (by rfl) ?_
      refine aCmp_ne hC hT (tgt := 138) rfl (by decide) (fun hc15 => ?_) (fun hc15 => ?_)
      · have hf := aIfF hf hc15
        refine aRun_ok hC hT 1 (cf' := (139, [(0, .ref 1), (1, .int v1), (2, .int v2), (3, .int v3), (4, .int v4)], [.int (3 : Int32), .int v1, .ref 3], LAY, w9)) (by rfl) ?_
        refine aLocs [] (lv' := []) rfl ?_
        exact X9_setToken_1_b139_ok hC hF (3 : Int32) v1 w9 hf
      · have hf := aIfT hf hc15
        refine aRun_ok hC hT 2 (cf' := (139, [(0, .ref 1), (1, .int v1), (2, .int v2), (3, .int v3), (4, .int v4)], [.int (2 : Int32), .int v1, .ref 3], LAY, w9)) (by rfl) ?_
        refine aLocs [] (lv' := []) rfl ?_
        exact X9_setToken_1_b139_ok hC hF (2 : Int32) v1 w9 hf
    · have hf := aIfT hf hc12
      refine aRun_ok hC hT 4 (cf' := (110, [(0, .ref 1), (1, .int v1), (2, .int v2), (3, .int v3), (4, .int v4)], [.int (1 : Int32), .int v1, .ref 3], LAY, w9)) (by rfl) ?_
      obtain ⟨w18, ew19, hf⟩ := aLetE hf
      refine aCallS (As := [.ref 3, .int v1, .int (1 : Int32)]) (rest := []) hC hT rfl k_X9_setToken_34.1 _ k_X9_setToken_34.2 (by rfl) (Nat.le_of_ble_eq_true rfl) (by decide) (J_X6_set_3 C.2.2.1 C.1 v1 (1 : Int32) w9 ew19) ?_
      refine aRun_ok hC hT 1 (cf' := (142, [(0, .ref 1), (1, .int v1), (2, .int v2), (3, .int v3), (4, .int v4)], [], LAY, w18)) (by rfl) ?_
      have e9 := Option.some.inj hf; subst e9
      exact aRetV hC hT hF rfl rfl
  · have hf := aIfT hf hc11
    refine aRun_ok hC hT 6 (cf' := (90, [(0, .ref 1), (1, .int v1), (2, .int v2), (3, .int v3), (4, .int v4)], [.int v4, .int v2, .ref 1, .int v1, .ref 3], LAY, w9)) (by rfl) ?_
    obtain ⟨w20, ew21, hf⟩ := aBnE hf
    refine aCallV (b := 1) (As := [.int v2, .int v4]) (rest := [.int v1, .ref 3]) hC hT rfl k_X9_setToken_86.1 _ _ k_X9_setToken_86.2 (by decide) (by rfl) (by rfl) (by rfl) (Nat.le_of_ble_eq_true rfl) (by decide) (J_X9_wordOf_1 C.2.2.1 C.1 N v2 v4 w9 ew21) ?_
    obtain ⟨w22, ew23, hf⟩ := aLetE hf
    refine aCallS (As := [.ref 3, .int v1, .int w20]) (rest := []) hC hT rfl k_X9_setToken_34.1 _ k_X9_setToken_34.2 (by rfl) (Nat.le_of_ble_eq_true rfl) (by decide) (J_X6_set_3 C.2.2.1 C.1 v1 w20 w9 ew23) ?_
    refine aRun_ok hC hT 1 (cf' := (142, [(0, .ref 1), (1, .int v1), (2, .int v2), (3, .int v3), (4, .int v4)], [], LAY, w22)) (by rfl) ?_
    have e9 := Option.some.inj hf; subst e9
    exact aRetV hC hT hF rfl rfl
def X9_setToken_1_b43 (N : Nat) (v1 : Int32) (v2 : Int32) (v3 : Int32) (v4 : Int32) (S : aSt) : Option (aSt) := (aLet (X6_set_4 v1 v2 S) (fun w6 => (if v3 = (2 : Int32) then (Option.bind (X9_valueOf_1 N v2 v4 w6) (fun w24 => (X9_setToken_1_b73 N v1 v2 v3 v4 w24 v1 w6))) else (X9_setToken_1_b73 N v1 v2 v3 v4 ((-1) : Int32) v1 w6))))
set_option maxHeartbeats 4000000 in
set_option maxRecDepth 100000 in
theorem X9_setToken_1_b43_ok {C : aC} {N : Nat} (hC : aCx C M_X9_setToken) {r : aSt} (hF : aFin C none LAY r 0 0) (v1 : Int32) (v2 : Int32) (v3 : Int32) (v4 : Int32) (S : aSt) (hf : X9_setToken_1_b43 N v1 v2 v3 v4 S = (some r)) : aX C M_X9_setToken 0 0 (43, [(0, .ref 1), (1, .int v1), (2, .int v2), (3, .int v3), (4, .int v4)], [], LAY, S) := by
  have hT := ok_X9_setToken
  unfold X9_setToken_1_b43 at hf
  refine aRun_ok hC hT 4 (cf' := (49, [(0, .ref 1), (1, .int v1), (2, .int v2), (3, .int v3), (4, .int v4)], [.int v2, .int v1, .ref 4], LAY, S)) (by rfl) ?_
  obtain ⟨w6, ew7, hf⟩ := aLetE hf
  refine aCallS (As := [.ref 4, .int v1, .int v2]) (rest := []) hC hT rfl k_X9_setToken_34.1 _ k_X9_setToken_34.2 (by rfl) (Nat.le_of_ble_eq_true rfl) (by decide) (J_X6_set_4 C.2.2.1 C.1 v1 v2 S ew7) ?_
  refine aRun_ok hC hT 5 (cf' := (59, [(0, .ref 1), (1, .int v1), (2, .int v2), (3, .int v3), (4, .int v4)], [.int (2 : Int32), .int v3, .int v1, .ref 5], LAY, w6)) (by rfl) ?_
  refine aCmp_ne hC hT (tgt := 72) rfl (by decide) (fun hc8 => ?_) (fun hc8 => ?_)
  · have hf := aIfF hf hc8
    refine aRun_ok hC hT 1 (cf' := (73, [(0, .ref 1), (1, .int v1), (2, .int v2), (3, .int v3), (4, .int v4)], [.int ((-1) : Int32), .int v1, .ref 5], LAY, w6)) (by rfl) ?_
    exact X9_setToken_1_b73_ok hC hF v1 v2 v3 v4 ((-1) : Int32) v1 w6 hf
  · have hf := aIfT hf hc8
    refine aRun_ok hC hT 3 (cf' := (66, [(0, .ref 1), (1, .int v1), (2, .int v2), (3, .int v3), (4, .int v4)], [.int v4, .int v2, .ref 1, .int v1, .ref 5], LAY, w6)) (by rfl) ?_
    obtain ⟨w24, ew25, hf⟩ := aBnE hf
    refine aCallV (b := 1) (As := [.int v2, .int v4]) (rest := [.int v1, .ref 5]) hC hT rfl k_X9_setToken_83.1 _ _ k_X9_setToken_83.2 (by decide) (by rfl) (by rfl) (by rfl) (Nat.le_of_ble_eq_true rfl) (by decide) (J_X9_valueOf_1 C.2.2.1 C.1 N v2 v4 w6 ew25) ?_
    refine aRun_ok hC hT 1 (cf' := (73, [(0, .ref 1), (1, .int v1), (2, .int v2), (3, .int v3), (4, .int v4)], [.int w24, .int v1, .ref 5], LAY, w6)) (by rfl) ?_
    exact X9_setToken_1_b73_ok hC hF v1 v2 v3 v4 w24 v1 w6 hf
def X9_setToken_1_b11 (N : Nat) (rec11 : Int32 → Int32 → Int32 → Int32 → aSt → Option (aSt)) (v1 : Int32) (v2 : Int32) (v3 : Int32) (v4 : Int32) (S : aSt) : Option (aSt) := (aLet (X9_isRow v3) (fun w3 => (if w3 = (0 : Int32) then (X9_setToken_1_b43 N v1 v2 v3 v4 S) else (if (S.1 1 0) ≤ v4 then (X9_setToken_1_b43 N v1 v2 v3 v4 S) else (aLet (X9_sortAt_1 v4 S) (fun w27 => (if w27 = v3 then (rec11 v1 v2 v3 (v4 + (1 : Int32)) S) else (X9_setToken_1_b43 N v1 v2 v3 v4 S))))))))
set_option maxHeartbeats 4000000 in
set_option maxRecDepth 100000 in
theorem X9_setToken_1_b11_ok {C : aC} {N : Nat} {rec11 : Int32 → Int32 → Int32 → Int32 → aSt → Option (aSt)} (hC : aCx C M_X9_setToken) {r : aSt} (hF : aFin C none LAY r 0 0) (hrec11 : ∀ (v1 : Int32) (v2 : Int32) (v3 : Int32) (v4 : Int32) (S : aSt), rec11 v1 v2 v3 v4 S = (some r) → aX C M_X9_setToken 0 0 (11, [(0, .ref 1), (1, .int v1), (2, .int v2), (3, .int v3), (4, .int v4)], [], LAY, S)) (v1 : Int32) (v2 : Int32) (v3 : Int32) (v4 : Int32) (S : aSt) (hf : X9_setToken_1_b11 N rec11 v1 v2 v3 v4 S = (some r)) : aX C M_X9_setToken 0 0 (11, [(0, .ref 1), (1, .int v1), (2, .int v2), (3, .int v3), (4, .int v4)], [], LAY, S) := by
  have hT := ok_X9_setToken
  unfold X9_setToken_1_b11 at hf
  refine aRun_ok hC hT 1 (cf' := (12, [(0, .ref 1), (1, .int v1), (2, .int v2), (3, .int v3), (4, .int v4)], [.int v3], LAY, S)) (by rfl) ?_
  obtain ⟨w3, ew4, hf⟩ := aLetE hf
  refine aCallS (As := [.int v3]) (rest := []) hC hT rfl k_X9_setToken_80.1 _ k_X9_setToken_80.2 (by rfl) (Nat.le_of_ble_eq_true rfl) (by decide) (J_X9_isRow C.2.2.1 C.1 v3 S ew4) ?_
  refine aIf_eq hC hT (tgt := 43) rfl (by decide) (fun hc5 => ?_) (fun hc5 => ?_)
  · have hf := aIfT hf hc5
    exact X9_setToken_1_b43_ok hC hF v1 v2 v3 v4 S hf
  · have hf := aIfF hf hc5
    refine aRun_ok hC hT 3 (cf' := (24, [(0, .ref 1), (1, .int v1), (2, .int v2), (3, .int v3), (4, .int v4)], [.int (S.1 1 0), .int v4], LAY, S)) (by rfl) ?_
    refine aCmp_ge hC hT (tgt := 43) rfl (by decide) (fun hc26 => ?_) (fun hc26 => ?_)
    · have hf := aIfT hf hc26
      exact X9_setToken_1_b43_ok hC hF v1 v2 v3 v4 S hf
    · have hf := aIfF hf hc26
      refine aRun_ok hC hT 2 (cf' := (30, [(0, .ref 1), (1, .int v1), (2, .int v2), (3, .int v3), (4, .int v4)], [.int v4, .ref 1], LAY, S)) (by rfl) ?_
      obtain ⟨w27, ew28, hf⟩ := aLetE hf
      refine aCallV (b := 1) (As := [.int v4]) (rest := []) hC hT rfl k_X9_setToken_76.1 _ _ k_X9_setToken_76.2 (by decide) (by rfl) (by rfl) (by rfl) (Nat.le_of_ble_eq_true rfl) (by decide) (J_X9_sortAt_1 C.2.2.1 C.1 v4 S ew28) ?_
      refine aRun_ok hC hT 1 (cf' := (34, [(0, .ref 1), (1, .int v1), (2, .int v2), (3, .int v3), (4, .int v4)], [.int v3, .int w27], LAY, S)) (by rfl) ?_
      refine aCmp_ne hC hT (tgt := 43) rfl (by decide) (fun hc29 => ?_) (fun hc29 => ?_)
      · have hf := aIfF hf hc29
        exact X9_setToken_1_b43_ok hC hF v1 v2 v3 v4 S hf
      · have hf := aIfT hf hc29
        refine aRun_ok hC hT 2 (cf' := (11, [(4, .int (v4 + (1 : Int32))), (0, .ref 1), (1, .int v1), (2, .int v2), (3, .int v3)], [], LAY, S)) (by rfl) ?_
        refine aLocs [1, 2, 3, 4, 0] (lv' := [(0, .ref 1), (1, .int v1), (2, .int v2), (3, .int v3), (4, .int (v4 + (1 : Int32)))]) rfl ?_
        exact hrec11 v1 v2 v3 (v4 + (1 : Int32)) S hf
def X9_setToken_1_l11 (N : Nat) : Nat → Int32 → Int32 → Int32 → Int32 → aSt → Option (aSt)
  | 0 => fun _ _ _ _ _ => none
  | n + 1 => X9_setToken_1_b11 N (X9_setToken_1_l11 N n)
theorem X9_setToken_1_l11_ok {C : aC} {N : Nat} (hC : aCx C M_X9_setToken) {r : aSt} (hF : aFin C none LAY r 0 0) : ∀ (n : Nat) (v1 : Int32) (v2 : Int32) (v3 : Int32) (v4 : Int32) (S : aSt), X9_setToken_1_l11 N n v1 v2 v3 v4 S = (some r) → aX C M_X9_setToken 0 0 (11, [(0, .ref 1), (1, .int v1), (2, .int v2), (3, .int v3), (4, .int v4)], [], LAY, S)
  | 0, _, _, _, _, _,  h => nomatch (show (none : Option (aSt)) = some _ from h)
  | n + 1, v1, v2, v3, v4, S,  h => X9_setToken_1_b11_ok hC hF (fun v1 v2 v3 v4 S h => X9_setToken_1_l11_ok hC hF n v1 v2 v3 v4 S h) v1 v2 v3 v4 S h
def X9_setToken_1 (N : Nat) (a1 : Int32) (a2 : Int32) (S : aSt) : Option (aSt) := (aLet (X9_sortAt_1 a2 S) (fun w1 => (X9_setToken_1_l11 N N a1 a2 w1 (a2 + (1 : Int32)) S)))
set_option maxHeartbeats 4000000 in
set_option maxRecDepth 100000 in
theorem J_X9_setToken_1 (l : Launch) (g : aWg) (N : Nat) (a1 : Int32) (a2 : Int32) (S : aSt) {r : aSt} (hf : X9_setToken_1 N a1 a2 S = (some r)) : aJ l g yX9_setToken M_X9_setToken [.ref 1, .int a1, .int a2] LAY S none LAY r 0 0 := by
  refine aJ_of (by decide +kernel) rfl (Nat.le_of_ble_eq_true rfl) (fun h => nomatch h) ?_
  intro C hg hl hC hz hF
  subst hg; subst hl
  have hT := ok_X9_setToken
  unfold X9_setToken_1 at hf
  show aX C M_X9_setToken 0 0 (0, [(0, .ref 1), (1, .int a1), (2, .int a2)], [], LAY, S)
  refine aRun_ok hC hT 2 (cf' := (2, [(0, .ref 1), (1, .int a1), (2, .int a2)], [.int a2, .ref 1], LAY, S)) (by rfl) ?_
  obtain ⟨w1, ew2, hf⟩ := aLetE hf
  refine aCallV (b := 1) (As := [.int a2]) (rest := []) hC hT rfl k_X9_setToken_76.1 _ _ k_X9_setToken_76.2 (by decide) (by rfl) (by rfl) (by rfl) (Nat.le_of_ble_eq_true rfl) (by decide) (J_X9_sortAt_1 C.2.2.1 C.1 a2 S ew2) ?_
  refine aRun_ok hC hT 5 (cf' := (11, [(4, .int (a2 + (1 : Int32))), (3, .int w1), (0, .ref 1), (1, .int a1), (2, .int a2)], [], LAY, S)) (by rfl) ?_
  refine aLocs [2, 3, 4, 1, 0] (lv' := [(0, .ref 1), (1, .int a1), (2, .int a2), (3, .int w1), (4, .int (a2 + (1 : Int32)))]) rfl ?_
  exact X9_setToken_1_l11_ok hC hF N a1 a2 w1 (a2 + (1 : Int32)) S hf
def X9_split_1_b35 (N : Nat) (v1 : Int32) (S : aSt) : Option (aSt) := (aLet (X6_set_3 v1 (0 : Int32) S) (fun w2 => (aLet (X6_set_4 v1 (w2.1 1 0) w2) (fun w4 => (aLet (X6_set_5 v1 ((-1) : Int32) w4) (fun w6 => some (w6)))))))
set_option maxHeartbeats 4000000 in
set_option maxRecDepth 100000 in
theorem X9_split_1_b35_ok {C : aC} {N : Nat} (hC : aCx C M_X9_split) {r : aSt} (hF : aFin C none LAY r 0 0) (v1 : Int32) (S : aSt) (hf : X9_split_1_b35 N v1 S = (some r)) : aX C M_X9_split 0 0 (35, [(0, .ref 1), (1, .int v1)], [], LAY, S) := by
  have hT := ok_X9_split
  unfold X9_split_1_b35 at hf
  refine aRun_ok hC hT 4 (cf' := (41, [(0, .ref 1), (1, .int v1)], [.int (0 : Int32), .int v1, .ref 3], LAY, S)) (by rfl) ?_
  obtain ⟨w2, ew3, hf⟩ := aLetE hf
  refine aCallS (As := [.ref 3, .int v1, .int (0 : Int32)]) (rest := []) hC hT rfl k_X9_split_34.1 _ k_X9_split_34.2 (by rfl) (Nat.le_of_ble_eq_true rfl) (by decide) (J_X6_set_3 C.2.2.1 C.1 v1 (0 : Int32) S ew3) ?_
  refine aRun_ok hC hT 5 (cf' := (53, [(0, .ref 1), (1, .int v1)], [.int (w2.1 1 0), .int v1, .ref 4], LAY, w2)) (by rfl) ?_
  obtain ⟨w4, ew5, hf⟩ := aLetE hf
  refine aCallS (As := [.ref 4, .int v1, .int (w2.1 1 0)]) (rest := []) hC hT rfl k_X9_split_34.1 _ k_X9_split_34.2 (by rfl) (Nat.le_of_ble_eq_true rfl) (by decide) (J_X6_set_4 C.2.2.1 C.1 v1 (w2.1 1 0) w2 ew5) ?_
  refine aRun_ok hC hT 4 (cf' := (62, [(0, .ref 1), (1, .int v1)], [.int ((-1) : Int32), .int v1, .ref 5], LAY, w4)) (by rfl) ?_
  obtain ⟨w6, ew7, hf⟩ := aLetE hf
  refine aCallS (As := [.ref 5, .int v1, .int ((-1) : Int32)]) (rest := []) hC hT rfl k_X9_split_34.1 _ k_X9_split_34.2 (by rfl) (Nat.le_of_ble_eq_true rfl) (by decide) (J_X6_set_5 C.2.2.1 C.1 v1 ((-1) : Int32) w4 ew7) ?_
  have e9 := Option.some.inj hf; subst e9
  exact aRetV hC hT hF rfl rfl
def X9_split_1_b29 (N : Nat) (rec4 : Int32 → Int32 → aSt → Option (aSt)) (v1 : Int32) (v2 : Int32) (S : aSt) : Option (aSt) := (rec4 v1 (v2 + (1 : Int32)) S)
set_option maxHeartbeats 4000000 in
set_option maxRecDepth 100000 in
theorem X9_split_1_b29_ok {C : aC} {N : Nat} {rec4 : Int32 → Int32 → aSt → Option (aSt)} (hC : aCx C M_X9_split) {r : aSt} (hF : aFin C none LAY r 0 0) (hrec4 : ∀ (v1 : Int32) (v2 : Int32) (S : aSt), rec4 v1 v2 S = (some r) → aX C M_X9_split 0 0 (4, [(0, .ref 1), (1, .int v1), (2, .int v2)], [], LAY, S)) (v1 : Int32) (v2 : Int32) (S : aSt) (hf : X9_split_1_b29 N rec4 v1 v2 S = (some r)) : aX C M_X9_split 0 0 (29, [(0, .ref 1), (1, .int v1), (2, .int v2)], [], LAY, S) := by
  have hT := ok_X9_split
  unfold X9_split_1_b29 at hf
  refine aRun_ok hC hT 2 (cf' := (4, [(2, .int (v2 + (1 : Int32))), (0, .ref 1), (1, .int v1)], [], LAY, S)) (by rfl) ?_
  refine aLocs [1, 2, 0] (lv' := [(0, .ref 1), (1, .int v1), (2, .int (v2 + (1 : Int32)))]) rfl ?_
  exact hrec4 v1 (v2 + (1 : Int32)) S hf
def X9_split_1_b4 (N : Nat) (rec4 : Int32 → Int32 → aSt → Option (aSt)) (v1 : Int32) (v2 : Int32) (S : aSt) : Option (aSt) := (if (S.1 1 0) ≤ v2 then (X9_split_1_b35 N v1 S) else (aLet (X9_isBegin_1 v2 S) (fun w8 => (if w8 = (0 : Int32) then (X9_split_1_b29 N rec4 v1 v2 S) else (Option.bind (X9_setToken_1 N v1 v2 S) (fun w11 => (X9_split_1_b29 N rec4 (v1 + (1 : Int32)) v2 w11)))))))
set_option maxHeartbeats 4000000 in
set_option maxRecDepth 100000 in
theorem X9_split_1_b4_ok {C : aC} {N : Nat} {rec4 : Int32 → Int32 → aSt → Option (aSt)} (hC : aCx C M_X9_split) {r : aSt} (hF : aFin C none LAY r 0 0) (hrec4 : ∀ (v1 : Int32) (v2 : Int32) (S : aSt), rec4 v1 v2 S = (some r) → aX C M_X9_split 0 0 (4, [(0, .ref 1), (1, .int v1), (2, .int v2)], [], LAY, S)) (v1 : Int32) (v2 : Int32) (S : aSt) (hf : X9_split_1_b4 N rec4 v1 v2 S = (some r)) : aX C M_X9_split 0 0 (4, [(0, .ref 1), (1, .int v1), (2, .int v2)], [], LAY, S) := by
  have hT := ok_X9_split
  unfold X9_split_1_b4 at hf
  refine aRun_ok hC hT 3 (cf' := (9, [(0, .ref 1), (1, .int v1), (2, .int v2)], [.int (S.1 1 0), .int v2], LAY, S)) (by rfl) ?_
  refine aCmp_ge hC hT (tgt := 35) rfl (by decide) (fun hc1 => ?_) (fun hc1 => ?_)
  · have hf := aIfT hf hc1
    refine aLocs [0, 1] (lv' := [(0, .ref 1), (1, .int v1)]) rfl ?_
    exact X9_split_1_b35_ok hC hF v1 S hf
  · have hf := aIfF hf hc1
    refine aRun_ok hC hT 2 (cf' := (14, [(0, .ref 1), (1, .int v1), (2, .int v2)], [.int v2, .ref 1], LAY, S)) (by rfl) ?_
    obtain ⟨w8, ew9, hf⟩ := aLetE hf
    refine aCallV (b := 1) (As := [.int v2]) (rest := []) hC hT rfl k_X9_split_69.1 _ _ k_X9_split_69.2 (by decide) (by rfl) (by rfl) (by rfl) (Nat.le_of_ble_eq_true rfl) (by decide) (J_X9_isBegin_1 C.2.2.1 C.1 v2 S ew9) ?_
    refine aIf_eq hC hT (tgt := 29) rfl (by decide) (fun hc10 => ?_) (fun hc10 => ?_)
    · have hf := aIfT hf hc10
      exact X9_split_1_b29_ok hC hF hrec4 v1 v2 S hf
    · have hf := aIfF hf hc10
      refine aRun_ok hC hT 3 (cf' := (23, [(0, .ref 1), (1, .int v1), (2, .int v2)], [.int v2, .int v1, .ref 1], LAY, S)) (by rfl) ?_
      obtain ⟨w11, ew12, hf⟩ := aBnE hf
      refine aCallV (b := 1) (As := [.int v1, .int v2]) (rest := []) hC hT rfl k_X9_split_72.1 _ _ k_X9_split_72.2 (by decide) (by rfl) (by rfl) (by rfl) (Nat.le_of_ble_eq_true rfl) (by decide) (J_X9_setToken_1 C.2.2.1 C.1 N v1 v2 S ew12) ?_
      refine aRun_ok hC hT 1 (cf' := (29, [(1, .int (v1 + (1 : Int32))), (0, .ref 1), (2, .int v2)], [], LAY, w11)) (by rfl) ?_
      refine aLocs [1, 0, 2] (lv' := [(0, .ref 1), (1, .int (v1 + (1 : Int32))), (2, .int v2)]) rfl ?_
      exact X9_split_1_b29_ok hC hF hrec4 (v1 + (1 : Int32)) v2 w11 hf
def X9_split_1_l4 (N : Nat) : Nat → Int32 → Int32 → aSt → Option (aSt)
  | 0 => fun _ _ _ => none
  | n + 1 => X9_split_1_b4 N (X9_split_1_l4 N n)
theorem X9_split_1_l4_ok {C : aC} {N : Nat} (hC : aCx C M_X9_split) {r : aSt} (hF : aFin C none LAY r 0 0) : ∀ (n : Nat) (v1 : Int32) (v2 : Int32) (S : aSt), X9_split_1_l4 N n v1 v2 S = (some r) → aX C M_X9_split 0 0 (4, [(0, .ref 1), (1, .int v1), (2, .int v2)], [], LAY, S)
  | 0, _, _, _,  h => nomatch (show (none : Option (aSt)) = some _ from h)
  | n + 1, v1, v2, S,  h => X9_split_1_b4_ok hC hF (fun v1 v2 S h => X9_split_1_l4_ok hC hF n v1 v2 S h) v1 v2 S h
def X9_split_1 (N : Nat) (S : aSt) : Option (aSt) := (X9_split_1_l4 N N (0 : Int32) (0 : Int32) S)
set_option maxHeartbeats 4000000 in
set_option maxRecDepth 100000 in
theorem J_X9_split_1 (l : Launch) (g : aWg) (N : Nat) (S : aSt) {r : aSt} (hf : X9_split_1 N S = (some r)) : aJ l g yX9_split M_X9_split [.ref 1] LAY S none LAY r 0 0 := by
  refine aJ_of (by decide +kernel) rfl (Nat.le_of_ble_eq_true rfl) (fun h => nomatch h) ?_
  intro C hg hl hC hz hF
  subst hg; subst hl
  have hT := ok_X9_split
  unfold X9_split_1 at hf
  show aX C M_X9_split 0 0 (0, [(0, .ref 1)], [], LAY, S)
  refine aRun_ok hC hT 4 (cf' := (4, [(2, .int (0 : Int32)), (1, .int (0 : Int32)), (0, .ref 1)], [], LAY, S)) (by rfl) ?_
  refine aLocs [2, 1, 0] (lv' := [(0, .ref 1), (1, .int (0 : Int32)), (2, .int (0 : Int32))]) rfl ?_
  exact X9_split_1_l4_ok hC hF N (0 : Int32) (0 : Int32) S hf
def X6_at_4 (a1 : Int32) (S : aSt) : Int32 := (if a1 < (0 : Int32) then (0 : Int32) else (if (201 : Int32) ≤ a1 then (0 : Int32) else ((S.2.2 4) a1.toNatClampNeg)))
set_option maxHeartbeats 4000000 in
set_option maxRecDepth 100000 in
theorem J_X6_at_4 (l : Launch) (g : aWg) (a1 : Int32) (S : aSt) {r : Int32} (hf : X6_at_4 a1 S = r) : aJ l g yX6_at M_X6_at [.ref 4, .int a1] LAY S (some (.int r)) LAY S 0 0 := by
  refine aJ_of (by decide +kernel) rfl (Nat.le_of_ble_eq_true rfl) (fun h => nomatch h) ?_
  intro C hg hl hC hz hF
  subst hg; subst hl
  have hT := ok_X6_at
  unfold X6_at_4 at hf
  show aX C M_X6_at 0 0 (0, [(0, .ref 4), (1, .int a1)], [], LAY, S)
  refine aRun_ok hC hT 1 (cf' := (1, [(0, .ref 4), (1, .int a1)], [.int a1], LAY, S)) (by rfl) ?_
  refine aIf_lt hC hT (tgt := 16) rfl (by decide) (fun hc1 => ?_) (fun hc1 => ?_)
  · have hf := aIfT hf hc1
    refine aRun_ok hC hT 1 (cf' := (17, [(0, .ref 4), (1, .int a1)], [.int (0 : Int32)], LAY, S)) (by rfl) ?_
    subst hf
    exact aRetI hC hT hF rfl rfl
  · have hf := aIfF hf hc1
    refine aRun_ok hC hT 3 (cf' := (7, [(0, .ref 4), (1, .int a1)], [.int (201 : Int32), .int a1], LAY, S)) (by rfl) ?_
    refine aCmp_ge hC hT (tgt := 16) rfl (by decide) (fun hc2 => ?_) (fun hc2 => ?_)
    · have hf := aIfT hf hc2
      refine aRun_ok hC hT 1 (cf' := (17, [(0, .ref 4), (1, .int a1)], [.int (0 : Int32)], LAY, S)) (by rfl) ?_
      subst hf
      exact aRetI hC hT hF rfl rfl
    · have hf := aIfF hf hc2
      refine aRun_ok hC hT 2 (cf' := (12, [(0, .ref 4), (1, .int a1)], [.int a1, .ref 4], LAY, S)) (by rfl) ?_
      refine aIald hC hT rfl (by decide) (by rfl) (aIx_of hc1 hc2 (by decide)) ?_
      refine aRun_ok hC hT 1 (cf' := (17, [(0, .ref 4), (1, .int a1)], [.int ((S.2.2 4) a1.toNatClampNeg)], LAY, S)) (by rfl) ?_
      subst hf
      exact aRetI hC hT hF rfl rfl
def X6_at_3 (a1 : Int32) (S : aSt) : Int32 := (if a1 < (0 : Int32) then (0 : Int32) else (if (201 : Int32) ≤ a1 then (0 : Int32) else ((S.2.2 3) a1.toNatClampNeg)))
set_option maxHeartbeats 4000000 in
set_option maxRecDepth 100000 in
theorem J_X6_at_3 (l : Launch) (g : aWg) (a1 : Int32) (S : aSt) {r : Int32} (hf : X6_at_3 a1 S = r) : aJ l g yX6_at M_X6_at [.ref 3, .int a1] LAY S (some (.int r)) LAY S 0 0 := by
  refine aJ_of (by decide +kernel) rfl (Nat.le_of_ble_eq_true rfl) (fun h => nomatch h) ?_
  intro C hg hl hC hz hF
  subst hg; subst hl
  have hT := ok_X6_at
  unfold X6_at_3 at hf
  show aX C M_X6_at 0 0 (0, [(0, .ref 3), (1, .int a1)], [], LAY, S)
  refine aRun_ok hC hT 1 (cf' := (1, [(0, .ref 3), (1, .int a1)], [.int a1], LAY, S)) (by rfl) ?_
  refine aIf_lt hC hT (tgt := 16) rfl (by decide) (fun hc1 => ?_) (fun hc1 => ?_)
  · have hf := aIfT hf hc1
    refine aRun_ok hC hT 1 (cf' := (17, [(0, .ref 3), (1, .int a1)], [.int (0 : Int32)], LAY, S)) (by rfl) ?_
    subst hf
    exact aRetI hC hT hF rfl rfl
  · have hf := aIfF hf hc1
    refine aRun_ok hC hT 3 (cf' := (7, [(0, .ref 3), (1, .int a1)], [.int (201 : Int32), .int a1], LAY, S)) (by rfl) ?_
    refine aCmp_ge hC hT (tgt := 16) rfl (by decide) (fun hc2 => ?_) (fun hc2 => ?_)
    · have hf := aIfT hf hc2
      refine aRun_ok hC hT 1 (cf' := (17, [(0, .ref 3), (1, .int a1)], [.int (0 : Int32)], LAY, S)) (by rfl) ?_
      subst hf
      exact aRetI hC hT hF rfl rfl
    · have hf := aIfF hf hc2
      refine aRun_ok hC hT 2 (cf' := (12, [(0, .ref 3), (1, .int a1)], [.int a1, .ref 3], LAY, S)) (by rfl) ?_
      refine aIald hC hT rfl (by decide) (by rfl) (aIx_of hc1 hc2 (by decide)) ?_
      refine aRun_ok hC hT 1 (cf' := (17, [(0, .ref 3), (1, .int a1)], [.int ((S.2.2 3) a1.toNatClampNeg)], LAY, S)) (by rfl) ?_
      subst hf
      exact aRetI hC hT hF rfl rfl
def X6_set_6 (a1 : Int32) (a2 : Int32) (S : aSt) : aSt := (if a1 < (0 : Int32) then S else (if (10 : Int32) ≤ a1 then S else (aA S 6 (upd (S.2.2 6) a1.toNatClampNeg a2))))
set_option maxHeartbeats 4000000 in
set_option maxRecDepth 100000 in
theorem J_X6_set_6 (l : Launch) (g : aWg) (a1 : Int32) (a2 : Int32) (S : aSt) {r : aSt} (hf : X6_set_6 a1 a2 S = r) : aJ l g yX6_set M_X6_set [.ref 6, .int a1, .int a2] LAY S none LAY r 0 0 := by
  refine aJ_of (by decide +kernel) rfl (Nat.le_of_ble_eq_true rfl) (fun h => nomatch h) ?_
  intro C hg hl hC hz hF
  subst hg; subst hl
  have hT := ok_X6_set
  unfold X6_set_6 at hf
  show aX C M_X6_set 0 0 (0, [(0, .ref 6), (1, .int a1), (2, .int a2)], [], LAY, S)
  refine aRun_ok hC hT 1 (cf' := (1, [(0, .ref 6), (1, .int a1), (2, .int a2)], [.int a1], LAY, S)) (by rfl) ?_
  refine aIf_lt hC hT (tgt := 14) rfl (by decide) (fun hc1 => ?_) (fun hc1 => ?_)
  · have hf := aIfT hf hc1
    subst hf
    exact aRetV hC hT hF rfl rfl
  · have hf := aIfF hf hc1
    refine aRun_ok hC hT 3 (cf' := (7, [(0, .ref 6), (1, .int a1), (2, .int a2)], [.int (10 : Int32), .int a1], LAY, S)) (by rfl) ?_
    refine aCmp_ge hC hT (tgt := 14) rfl (by decide) (fun hc2 => ?_) (fun hc2 => ?_)
    · have hf := aIfT hf hc2
      subst hf
      exact aRetV hC hT hF rfl rfl
    · have hf := aIfF hf hc2
      refine aRun_ok hC hT 3 (cf' := (13, [(0, .ref 6), (1, .int a1), (2, .int a2)], [.int a2, .int a1, .ref 6], LAY, S)) (by rfl) ?_
      refine aIast hC hT rfl (by decide) (by rfl) (aIx_of hc1 hc2 (by decide)) ?_
      subst hf
      exact aRetV hC hT hF rfl rfl
def X6_at_5 (a1 : Int32) (S : aSt) : Int32 := (if a1 < (0 : Int32) then (0 : Int32) else (if (201 : Int32) ≤ a1 then (0 : Int32) else ((S.2.2 5) a1.toNatClampNeg)))
set_option maxHeartbeats 4000000 in
set_option maxRecDepth 100000 in
theorem J_X6_at_5 (l : Launch) (g : aWg) (a1 : Int32) (S : aSt) {r : Int32} (hf : X6_at_5 a1 S = r) : aJ l g yX6_at M_X6_at [.ref 5, .int a1] LAY S (some (.int r)) LAY S 0 0 := by
  refine aJ_of (by decide +kernel) rfl (Nat.le_of_ble_eq_true rfl) (fun h => nomatch h) ?_
  intro C hg hl hC hz hF
  subst hg; subst hl
  have hT := ok_X6_at
  unfold X6_at_5 at hf
  show aX C M_X6_at 0 0 (0, [(0, .ref 5), (1, .int a1)], [], LAY, S)
  refine aRun_ok hC hT 1 (cf' := (1, [(0, .ref 5), (1, .int a1)], [.int a1], LAY, S)) (by rfl) ?_
  refine aIf_lt hC hT (tgt := 16) rfl (by decide) (fun hc1 => ?_) (fun hc1 => ?_)
  · have hf := aIfT hf hc1
    refine aRun_ok hC hT 1 (cf' := (17, [(0, .ref 5), (1, .int a1)], [.int (0 : Int32)], LAY, S)) (by rfl) ?_
    subst hf
    exact aRetI hC hT hF rfl rfl
  · have hf := aIfF hf hc1
    refine aRun_ok hC hT 3 (cf' := (7, [(0, .ref 5), (1, .int a1)], [.int (201 : Int32), .int a1], LAY, S)) (by rfl) ?_
    refine aCmp_ge hC hT (tgt := 16) rfl (by decide) (fun hc2 => ?_) (fun hc2 => ?_)
    · have hf := aIfT hf hc2
      refine aRun_ok hC hT 1 (cf' := (17, [(0, .ref 5), (1, .int a1)], [.int (0 : Int32)], LAY, S)) (by rfl) ?_
      subst hf
      exact aRetI hC hT hF rfl rfl
    · have hf := aIfF hf hc2
      refine aRun_ok hC hT 2 (cf' := (12, [(0, .ref 5), (1, .int a1)], [.int a1, .ref 5], LAY, S)) (by rfl) ?_
      refine aIald hC hT rfl (by decide) (by rfl) (aIx_of hc1 hc2 (by decide)) ?_
      refine aRun_ok hC hT 1 (cf' := (17, [(0, .ref 5), (1, .int a1)], [.int ((S.2.2 5) a1.toNatClampNeg)], LAY, S)) (by rfl) ?_
      subst hf
      exact aRetI hC hT hF rfl rfl
def X6_set_7 (a1 : Int32) (a2 : Int32) (S : aSt) : aSt := (if a1 < (0 : Int32) then S else (if (40 : Int32) ≤ a1 then S else (aA S 7 (upd (S.2.2 7) a1.toNatClampNeg a2))))
set_option maxHeartbeats 4000000 in
set_option maxRecDepth 100000 in
theorem J_X6_set_7 (l : Launch) (g : aWg) (a1 : Int32) (a2 : Int32) (S : aSt) {r : aSt} (hf : X6_set_7 a1 a2 S = r) : aJ l g yX6_set M_X6_set [.ref 7, .int a1, .int a2] LAY S none LAY r 0 0 := by
  refine aJ_of (by decide +kernel) rfl (Nat.le_of_ble_eq_true rfl) (fun h => nomatch h) ?_
  intro C hg hl hC hz hF
  subst hg; subst hl
  have hT := ok_X6_set
  unfold X6_set_7 at hf
  show aX C M_X6_set 0 0 (0, [(0, .ref 7), (1, .int a1), (2, .int a2)], [], LAY, S)
  refine aRun_ok hC hT 1 (cf' := (1, [(0, .ref 7), (1, .int a1), (2, .int a2)], [.int a1], LAY, S)) (by rfl) ?_
  refine aIf_lt hC hT (tgt := 14) rfl (by decide) (fun hc1 => ?_) (fun hc1 => ?_)
  · have hf := aIfT hf hc1
    subst hf
    exact aRetV hC hT hF rfl rfl
  · have hf := aIfF hf hc1
    refine aRun_ok hC hT 3 (cf' := (7, [(0, .ref 7), (1, .int a1), (2, .int a2)], [.int (40 : Int32), .int a1], LAY, S)) (by rfl) ?_
    refine aCmp_ge hC hT (tgt := 14) rfl (by decide) (fun hc2 => ?_) (fun hc2 => ?_)
    · have hf := aIfT hf hc2
      subst hf
      exact aRetV hC hT hF rfl rfl
    · have hf := aIfF hf hc2
      refine aRun_ok hC hT 3 (cf' := (13, [(0, .ref 7), (1, .int a1), (2, .int a2)], [.int a2, .int a1, .ref 7], LAY, S)) (by rfl) ?_
      refine aIast hC hT rfl (by decide) (by rfl) (aIx_of hc1 hc2 (by decide)) ?_
      subst hf
      exact aRetV hC hT hF rfl rfl
def X9_takeNumber_1 (a1 : Int32) (a2 : Int32) (a3 : Int32) (a4 : Int32) (S : aSt) : Int32 × aSt := (aLet (X6_at_5 (S.1 1 8) S) (fun w1 => (aLet (X6_at_3 (S.1 1 8) S) (fun w3 => (if w3 = (1 : Int32) then (if w1 < a3 then ((0 : Int32), S) else (if w1 ≤ a4 then (aLet (X6_set_7 ((a1 * (4 : Int32)) + a2) w1 S) (fun w8 => ((1 : Int32), (aI w8 1 8 ((w8.1 1 8) + (1 : Int32)))))) else ((0 : Int32), S))) else ((0 : Int32), S))))))
set_option maxHeartbeats 4000000 in
set_option maxRecDepth 100000 in
theorem J_X9_takeNumber_1 (l : Launch) (g : aWg) (a1 : Int32) (a2 : Int32) (a3 : Int32) (a4 : Int32) (S : aSt) {r : Int32 × aSt} (hf : X9_takeNumber_1 a1 a2 a3 a4 S = r) : aJ l g yX9_takeNumber M_X9_takeNumber [.ref 1, .int a1, .int a2, .int a3, .int a4] LAY S (some (.int r.1)) LAY r.2 0 0 := by
  refine aJ_of (by decide +kernel) rfl (Nat.le_of_ble_eq_true rfl) (fun h => nomatch h) ?_
  intro C hg hl hC hz hF
  subst hg; subst hl
  have hT := ok_X9_takeNumber
  unfold X9_takeNumber_1 at hf
  show aX C M_X9_takeNumber 0 0 (0, [(0, .ref 1), (1, .int a1), (2, .int a2), (3, .int a3), (4, .int a4)], [], LAY, S)
  refine aRun_ok hC hT 4 (cf' := (8, [(0, .ref 1), (1, .int a1), (2, .int a2), (3, .int a3), (4, .int a4)], [.int (S.1 1 8), .ref 5], LAY, S)) (by rfl) ?_
  obtain ⟨w1, ew2, hf⟩ := aLetE hf
  refine aCallS (As := [.ref 5, .int (S.1 1 8)]) (rest := []) hC hT rfl k_X9_takeNumber_40.1 _ k_X9_takeNumber_40.2 (by rfl) (Nat.le_of_ble_eq_true rfl) (by decide) (J_X6_at_5 C.2.2.1 C.1 (S.1 1 8) S ew2) ?_
  refine aRun_ok hC hT 5 (cf' := (21, [(5, .int w1), (0, .ref 1), (1, .int a1), (2, .int a2), (3, .int a3), (4, .int a4)], [.int (S.1 1 8), .ref 3], LAY, S)) (by rfl) ?_
  obtain ⟨w3, ew4, hf⟩ := aLetE hf
  refine aCallS (As := [.ref 3, .int (S.1 1 8)]) (rest := []) hC hT rfl k_X9_takeNumber_40.1 _ k_X9_takeNumber_40.2 (by rfl) (Nat.le_of_ble_eq_true rfl) (by decide) (J_X6_at_3 C.2.2.1 C.1 (S.1 1 8) S ew4) ?_
  refine aRun_ok hC hT 1 (cf' := (25, [(5, .int w1), (0, .ref 1), (1, .int a1), (2, .int a2), (3, .int a3), (4, .int a4)], [.int (1 : Int32), .int w3], LAY, S)) (by rfl) ?_
  refine aCmp_ne hC hT (tgt := 41) rfl (by decide) (fun hc5 => ?_) (fun hc5 => ?_)
  · have hf := aIfF hf hc5
    refine aRun_ok hC hT 1 (cf' := (42, [(5, .int w1), (0, .ref 1), (1, .int a1), (2, .int a2), (3, .int a3), (4, .int a4)], [.int (0 : Int32)], LAY, S)) (by rfl) ?_
    subst hf
    exact aRetB hC hT hF rfl (Or.inl rfl) rfl
  · have hf := aIfT hf hc5
    refine aRun_ok hC hT 2 (cf' := (31, [(5, .int w1), (0, .ref 1), (1, .int a1), (2, .int a2), (3, .int a3), (4, .int a4)], [.int a3, .int w1], LAY, S)) (by rfl) ?_
    refine aCmp_lt hC hT (tgt := 41) rfl (by decide) (fun hc6 => ?_) (fun hc6 => ?_)
    · have hf := aIfT hf hc6
      refine aRun_ok hC hT 1 (cf' := (42, [(5, .int w1), (0, .ref 1), (1, .int a1), (2, .int a2), (3, .int a3), (4, .int a4)], [.int (0 : Int32)], LAY, S)) (by rfl) ?_
      subst hf
      exact aRetB hC hT hF rfl (Or.inl rfl) rfl
    · have hf := aIfF hf hc6
      refine aRun_ok hC hT 2 (cf' := (38, [(5, .int w1), (0, .ref 1), (1, .int a1), (2, .int a2), (3, .int a3), (4, .int a4)], [.int a4, .int w1], LAY, S)) (by rfl) ?_
      refine aCmp_le hC hT (tgt := 43) rfl (by decide) (fun hc7 => ?_) (fun hc7 => ?_)
      · have hf := aIfT hf hc7
        refine aRun_ok hC hT 8 (cf' := (54, [(5, .int w1), (0, .ref 1), (1, .int a1), (2, .int a2), (3, .int a3), (4, .int a4)], [.int w1, .int ((a1 * (4 : Int32)) + a2), .ref 7], LAY, S)) (by rfl) ?_
        obtain ⟨w8, ew9, hf⟩ := aLetE hf
        refine aCallS (As := [.ref 7, .int ((a1 * (4 : Int32)) + a2), .int w1]) (rest := []) hC hT rfl k_X9_takeNumber_34.1 _ k_X9_takeNumber_34.2 (by rfl) (Nat.le_of_ble_eq_true rfl) (by decide) (J_X6_set_7 C.2.2.1 C.1 ((a1 * (4 : Int32)) + a2) w1 S ew9) ?_
        refine aRun_ok hC hT 7 (cf' := (68, [(5, .int w1), (0, .ref 1), (1, .int a1), (2, .int a2), (3, .int a3), (4, .int a4)], [.int (1 : Int32)], LAY, (aI w8 1 8 ((w8.1 1 8) + (1 : Int32))))) (by rfl) ?_
        subst hf
        exact aRetB hC hT hF rfl (Or.inr rfl) rfl
      · have hf := aIfF hf hc7
        refine aRun_ok hC hT 1 (cf' := (42, [(5, .int w1), (0, .ref 1), (1, .int a1), (2, .int a2), (3, .int a3), (4, .int a4)], [.int (0 : Int32)], LAY, S)) (by rfl) ?_
        subst hf
        exact aRetB hC hT hF rfl (Or.inl rfl) rfl
def X6_at_7 (a1 : Int32) (S : aSt) : Int32 := (if a1 < (0 : Int32) then (0 : Int32) else (if (40 : Int32) ≤ a1 then (0 : Int32) else ((S.2.2 7) a1.toNatClampNeg)))
set_option maxHeartbeats 4000000 in
set_option maxRecDepth 100000 in
theorem J_X6_at_7 (l : Launch) (g : aWg) (a1 : Int32) (S : aSt) {r : Int32} (hf : X6_at_7 a1 S = r) : aJ l g yX6_at M_X6_at [.ref 7, .int a1] LAY S (some (.int r)) LAY S 0 0 := by
  refine aJ_of (by decide +kernel) rfl (Nat.le_of_ble_eq_true rfl) (fun h => nomatch h) ?_
  intro C hg hl hC hz hF
  subst hg; subst hl
  have hT := ok_X6_at
  unfold X6_at_7 at hf
  show aX C M_X6_at 0 0 (0, [(0, .ref 7), (1, .int a1)], [], LAY, S)
  refine aRun_ok hC hT 1 (cf' := (1, [(0, .ref 7), (1, .int a1)], [.int a1], LAY, S)) (by rfl) ?_
  refine aIf_lt hC hT (tgt := 16) rfl (by decide) (fun hc1 => ?_) (fun hc1 => ?_)
  · have hf := aIfT hf hc1
    refine aRun_ok hC hT 1 (cf' := (17, [(0, .ref 7), (1, .int a1)], [.int (0 : Int32)], LAY, S)) (by rfl) ?_
    subst hf
    exact aRetI hC hT hF rfl rfl
  · have hf := aIfF hf hc1
    refine aRun_ok hC hT 3 (cf' := (7, [(0, .ref 7), (1, .int a1)], [.int (40 : Int32), .int a1], LAY, S)) (by rfl) ?_
    refine aCmp_ge hC hT (tgt := 16) rfl (by decide) (fun hc2 => ?_) (fun hc2 => ?_)
    · have hf := aIfT hf hc2
      refine aRun_ok hC hT 1 (cf' := (17, [(0, .ref 7), (1, .int a1)], [.int (0 : Int32)], LAY, S)) (by rfl) ?_
      subst hf
      exact aRetI hC hT hF rfl rfl
    · have hf := aIfF hf hc2
      refine aRun_ok hC hT 2 (cf' := (12, [(0, .ref 7), (1, .int a1)], [.int a1, .ref 7], LAY, S)) (by rfl) ?_
      refine aIald hC hT rfl (by decide) (by rfl) (aIx_of hc1 hc2 (by decide)) ?_
      refine aRun_ok hC hT 1 (cf' := (17, [(0, .ref 7), (1, .int a1)], [.int ((S.2.2 7) a1.toNatClampNeg)], LAY, S)) (by rfl) ?_
      subst hf
      exact aRetI hC hT hF rfl rfl
def X9_number_1 (a1 : Int32) (a2 : Int32) (S : aSt) : Int32 := (aLet (X6_at_7 ((a1 * (4 : Int32)) + a2) S) (fun w1 => w1))
set_option maxHeartbeats 4000000 in
set_option maxRecDepth 100000 in
theorem J_X9_number_1 (l : Launch) (g : aWg) (a1 : Int32) (a2 : Int32) (S : aSt) {r : Int32} (hf : X9_number_1 a1 a2 S = r) : aJ l g yX9_number M_X9_number [.ref 1, .int a1, .int a2] LAY S (some (.int r)) LAY S 0 0 := by
  refine aJ_of (by decide +kernel) rfl (Nat.le_of_ble_eq_true rfl) (fun h => nomatch h) ?_
  intro C hg hl hC hz hF
  subst hg; subst hl
  have hT := ok_X9_number
  unfold X9_number_1 at hf
  show aX C M_X9_number 0 0 (0, [(0, .ref 1), (1, .int a1), (2, .int a2)], [], LAY, S)
  refine aRun_ok hC hT 7 (cf' := (9, [(0, .ref 1), (1, .int a1), (2, .int a2)], [.int ((a1 * (4 : Int32)) + a2), .ref 7], LAY, S)) (by rfl) ?_
  obtain ⟨w1, ew2, hf⟩ := aLetE hf
  refine aCallS (As := [.ref 7, .int ((a1 * (4 : Int32)) + a2)]) (rest := []) hC hT rfl k_X9_number_40.1 _ k_X9_number_40.2 (by rfl) (Nat.le_of_ble_eq_true rfl) (by decide) (J_X6_at_7 C.2.2.1 C.1 ((a1 * (4 : Int32)) + a2) S ew2) ?_
  subst hf
  exact aRetI hC hT hF rfl rfl
def X9_readDue_1_b32 (v1 : Int32) (v2 : Int32) (S : aSt) : Int32 × aSt := (aLet (X6_set_7 ((v1 * (4 : Int32)) + (1 : Int32)) v2 S) (fun w4 => (if v2 = (18 : Int32) then ((1 : Int32), (aI w4 1 8 ((w4.1 1 8) + (1 : Int32)))) else (aLet (X9_takeNumber_1 v1 (2 : Int32) (0 : Int32) (999999 : Int32) (aI w4 1 8 ((w4.1 1 8) + (1 : Int32)))) (fun w7 => (if w7.1 = (0 : Int32) then ((0 : Int32), w7.2) else ((1 : Int32), w7.2)))))))
set_option maxHeartbeats 4000000 in
set_option maxRecDepth 100000 in
theorem X9_readDue_1_b32_ok {C : aC} (hC : aCx C M_X9_readDue) {r : Int32 × aSt} (hF : aFin C (some (.int r.1)) LAY r.2 0 0) (v1 : Int32) (v2 : Int32) (S : aSt) (hf : X9_readDue_1_b32 v1 v2 S = r) : aX C M_X9_readDue 0 0 (32, [(0, .ref 1), (1, .int v1), (2, .int v2)], [], LAY, S) := by
  have hT := ok_X9_readDue
  unfold X9_readDue_1_b32 at hf
  refine aRun_ok hC hT 8 (cf' := (42, [(0, .ref 1), (1, .int v1), (2, .int v2)], [.int v2, .int ((v1 * (4 : Int32)) + (1 : Int32)), .ref 7], LAY, S)) (by rfl) ?_
  obtain ⟨w4, ew5, hf⟩ := aLetE hf
  refine aCallS (As := [.ref 7, .int ((v1 * (4 : Int32)) + (1 : Int32)), .int v2]) (rest := []) hC hT rfl k_X9_readDue_34.1 _ k_X9_readDue_34.2 (by rfl) (Nat.le_of_ble_eq_true rfl) (by decide) (J_X6_set_7 C.2.2.1 C.1 ((v1 * (4 : Int32)) + (1 : Int32)) v2 S ew5) ?_
  refine aRun_ok hC hT 8 (cf' := (58, [(0, .ref 1), (1, .int v1), (2, .int v2)], [.int (18 : Int32), .int v2], LAY, (aI w4 1 8 ((w4.1 1 8) + (1 : Int32))))) (by rfl) ?_
  refine aCmp_eq hC hT (tgt := 73) rfl (by decide) (fun hc6 => ?_) (fun hc6 => ?_)
  · have hf := aIfT hf hc6
    refine aRun_ok hC hT 2 (cf' := (78, [(0, .ref 1), (1, .int v1), (2, .int v2)], [.int (1 : Int32)], LAY, (aI w4 1 8 ((w4.1 1 8) + (1 : Int32))))) (by rfl) ?_
    subst hf
    exact aRetB hC hT hF rfl (Or.inr rfl) rfl
  · have hf := aIfF hf hc6
    refine aRun_ok hC hT 5 (cf' := (67, [(0, .ref 1), (1, .int v1), (2, .int v2)], [.int (999999 : Int32), .int (0 : Int32), .int (2 : Int32), .int v1, .ref 1], LAY, (aI w4 1 8 ((w4.1 1 8) + (1 : Int32))))) (by rfl) ?_
    obtain ⟨w7, ew8, hf⟩ := aLetE hf
    refine aCallV (b := 1) (As := [.int v1, .int (2 : Int32), .int (0 : Int32), .int (999999 : Int32)]) (rest := []) hC hT rfl k_X9_readDue_58.1 _ _ k_X9_readDue_58.2 (by decide) (by rfl) (by rfl) (by rfl) (Nat.le_of_ble_eq_true rfl) (by decide) (J_X9_takeNumber_1 C.2.2.1 C.1 v1 (2 : Int32) (0 : Int32) (999999 : Int32) (aI w4 1 8 ((w4.1 1 8) + (1 : Int32))) ew8) ?_
    refine aIf_eq hC hT (tgt := 77) rfl (by decide) (fun hc9 => ?_) (fun hc9 => ?_)
    · have hf := aIfT hf hc9
      refine aRun_ok hC hT 1 (cf' := (78, [(0, .ref 1), (1, .int v1), (2, .int v2)], [.int (0 : Int32)], LAY, w7.2)) (by rfl) ?_
      subst hf
      exact aRetB hC hT hF rfl (Or.inl rfl) rfl
    · have hf := aIfF hf hc9
      refine aRun_ok hC hT 2 (cf' := (78, [(0, .ref 1), (1, .int v1), (2, .int v2)], [.int (1 : Int32)], LAY, w7.2)) (by rfl) ?_
      subst hf
      exact aRetB hC hT hF rfl (Or.inr rfl) rfl
def X9_readDue_1 (a1 : Int32) (S : aSt) : Int32 × aSt := (aLet (X6_at_3 (S.1 1 8) S) (fun w1 => (if w1 = (10 : Int32) then (X9_readDue_1_b32 a1 w1 S) else (if w1 = (11 : Int32) then (X9_readDue_1_b32 a1 w1 S) else (if w1 = (18 : Int32) then (X9_readDue_1_b32 a1 w1 S) else ((0 : Int32), S))))))
set_option maxHeartbeats 4000000 in
set_option maxRecDepth 100000 in
theorem J_X9_readDue_1 (l : Launch) (g : aWg) (a1 : Int32) (S : aSt) {r : Int32 × aSt} (hf : X9_readDue_1 a1 S = r) : aJ l g yX9_readDue M_X9_readDue [.ref 1, .int a1] LAY S (some (.int r.1)) LAY r.2 0 0 := by
  refine aJ_of (by decide +kernel) rfl (Nat.le_of_ble_eq_true rfl) (fun h => nomatch h) ?_
  intro C hg hl hC hz hF
  subst hg; subst hl
  have hT := ok_X9_readDue
  unfold X9_readDue_1 at hf
  show aX C M_X9_readDue 0 0 (0, [(0, .ref 1), (1, .int a1)], [], LAY, S)
  refine aRun_ok hC hT 4 (cf' := (8, [(0, .ref 1), (1, .int a1)], [.int (S.1 1 8), .ref 3], LAY, S)) (by rfl) ?_
  obtain ⟨w1, ew2, hf⟩ := aLetE hf
  refine aCallS (As := [.ref 3, .int (S.1 1 8)]) (rest := []) hC hT rfl k_X9_readDue_40.1 _ k_X9_readDue_40.2 (by rfl) (Nat.le_of_ble_eq_true rfl) (by decide) (J_X6_at_3 C.2.2.1 C.1 (S.1 1 8) S ew2) ?_
  refine aRun_ok hC hT 3 (cf' := (15, [(2, .int w1), (0, .ref 1), (1, .int a1)], [.int (10 : Int32), .int w1], LAY, S)) (by rfl) ?_
  refine aCmp_eq hC hT (tgt := 32) rfl (by decide) (fun hc3 => ?_) (fun hc3 => ?_)
  · have hf := aIfT hf hc3
    refine aLocs [1, 2, 0] (lv' := [(0, .ref 1), (1, .int a1), (2, .int w1)]) rfl ?_
    exact X9_readDue_1_b32_ok hC hF a1 w1 S hf
  · have hf := aIfF hf hc3
    refine aRun_ok hC hT 2 (cf' := (21, [(2, .int w1), (0, .ref 1), (1, .int a1)], [.int (11 : Int32), .int w1], LAY, S)) (by rfl) ?_
    refine aCmp_eq hC hT (tgt := 32) rfl (by decide) (fun hc10 => ?_) (fun hc10 => ?_)
    · have hf := aIfT hf hc10
      refine aLocs [1, 2, 0] (lv' := [(0, .ref 1), (1, .int a1), (2, .int w1)]) rfl ?_
      exact X9_readDue_1_b32_ok hC hF a1 w1 S hf
    · have hf := aIfF hf hc10
      refine aRun_ok hC hT 2 (cf' := (27, [(2, .int w1), (0, .ref 1), (1, .int a1)], [.int (18 : Int32), .int w1], LAY, S)) (by rfl) ?_
      refine aCmp_eq hC hT (tgt := 32) rfl (by decide) (fun hc11 => ?_) (fun hc11 => ?_)
      · have hf := aIfT hf hc11
        refine aLocs [1, 2, 0] (lv' := [(0, .ref 1), (1, .int a1), (2, .int w1)]) rfl ?_
        exact X9_readDue_1_b32_ok hC hF a1 w1 S hf
      · have hf := aIfF hf hc11
        refine aRun_ok hC hT 1 (cf' := (31, [(2, .int w1), (0, .ref 1), (1, .int a1)], [.int (0 : Int32)], LAY, S)) (by rfl) ?_
        subst hf
        exact aRetB hC hT hF rfl (Or.inl rfl) rfl
def X9_readLine_1 (N : Nat) (a1 : Int32) (S : aSt) : Option (Int32 × aSt) := (aLet (X6_at_3 (S.1 1 8) S) (fun w1 => (if w1 < (10 : Int32) then some (((0 : Int32), S)) else (if w1 ≤ (17 : Int32) then (aLet (X6_set_6 a1 w1 S) (fun w5 => (if w1.toInt < 10 ∨ 17 < w1.toInt then (aLet (X9_takeNumber_1 a1 (0 : Int32) (0 : Int32) (99 : Int32) (aI w5 1 8 ((w5.1 1 8) + (1 : Int32)))) (fun w8 => (if w8.1 = 0 ∨ w8.1 = 1 then some ((w8.1, w8.2)) else none))) else (if w1 = (10 : Int32) then (aLet (X9_takeNumber_1 a1 (0 : Int32) (1 : Int32) (999999 : Int32) (aI w5 1 8 ((w5.1 1 8) + (1 : Int32)))) (fun w12 => (if w12.1 = (0 : Int32) then some (((0 : Int32), w12.2)) else (aLet (X9_takeNumber_1 a1 (1 : Int32) (0 : Int32) (7 : Int32) w12.2) (fun w15 => (if w15.1 = (0 : Int32) then some (((0 : Int32), w15.2)) else (aLet (X9_takeNumber_1 a1 (2 : Int32) (0 : Int32) (3 : Int32) w15.2) (fun w18 => (if w18.1 = (0 : Int32) then some (((0 : Int32), w18.2)) else (aLet (X9_takeNumber_1 a1 (3 : Int32) (0 : Int32) (5 : Int32) w18.2) (fun w21 => (if w21.1 = (0 : Int32) then some (((0 : Int32), w21.2)) else some (((1 : Int32), w21.2)))))))))))))) else (if w1 = (11 : Int32) then (aLet (X9_takeNumber_1 a1 (0 : Int32) (1 : Int32) (999999 : Int32) (aI w5 1 8 ((w5.1 1 8) + (1 : Int32)))) (fun w25 => (if w25.1 = (0 : Int32) then some (((0 : Int32), w25.2)) else (aLet (X9_takeNumber_1 a1 (1 : Int32) (0 : Int32) (7 : Int32) w25.2) (fun w28 => (if w28.1 = (0 : Int32) then some (((0 : Int32), w28.2)) else (aLet (X9_takeNumber_1 a1 (2 : Int32) (0 : Int32) (3 : Int32) w28.2) (fun w31 => (if w31.1 = (0 : Int32) then some (((0 : Int32), w31.2)) else (aLet (X9_takeNumber_1 a1 (3 : Int32) (0 : Int32) (5 : Int32) w31.2) (fun w34 => (if w34.1 = (0 : Int32) then some (((0 : Int32), w34.2)) else some (((1 : Int32), w34.2)))))))))))))) else (if w1 = (12 : Int32) then (aLet (X9_takeNumber_1 a1 (0 : Int32) (0 : Int32) (3 : Int32) (aI w5 1 8 ((w5.1 1 8) + (1 : Int32)))) (fun w38 => (if w38.1 = (0 : Int32) then some (((0 : Int32), w38.2)) else (aLet (X9_takeNumber_1 a1 (1 : Int32) (0 : Int32) (4 : Int32) w38.2) (fun w41 => (if w41.1 = (0 : Int32) then some (((0 : Int32), w41.2)) else (aLet (X9_takeNumber_1 a1 (2 : Int32) (0 : Int32) (99 : Int32) w41.2) (fun w44 => (if w44.1 = (0 : Int32) then some (((0 : Int32), w44.2)) else some (((1 : Int32), w44.2))))))))))) else (if w1 = (13 : Int32) then (aLet (X9_takeNumber_1 a1 (0 : Int32) (0 : Int32) (9 : Int32) (aI w5 1 8 ((w5.1 1 8) + (1 : Int32)))) (fun w48 => (if w48.1 = (0 : Int32) then some (((0 : Int32), w48.2)) else (aLet (X6_at_5 (w48.2.1 1 8) w48.2) (fun w51 => (aLet (X9_number_1 a1 (0 : Int32) w48.2) (fun w53 => (if w51 = w53 then some (((0 : Int32), w48.2)) else (aLet (X9_takeNumber_1 a1 (1 : Int32) (0 : Int32) (9 : Int32) w48.2) (fun w56 => (if w56.1 = (0 : Int32) then some (((0 : Int32), w56.2)) else (aLet (X9_takeNumber_1 a1 (2 : Int32) (0 : Int32) (99 : Int32) w56.2) (fun w59 => (if w59.1 = (0 : Int32) then some (((0 : Int32), w59.2)) else some (((1 : Int32), w59.2)))))))))))))))) else (if w1 = (14 : Int32) then (aLet (X9_takeNumber_1 a1 (0 : Int32) (0 : Int32) (99 : Int32) (aI w5 1 8 ((w5.1 1 8) + (1 : Int32)))) (fun w63 => (if w63.1 = 0 ∨ w63.1 = 1 then some ((w63.1, w63.2)) else none))) else (if w1 = (15 : Int32) then (aLet (X9_takeNumber_1 a1 (0 : Int32) (0 : Int32) (99 : Int32) (aI w5 1 8 ((w5.1 1 8) + (1 : Int32)))) (fun w67 => (if w67.1 = 0 ∨ w67.1 = 1 then some ((w67.1, w67.2)) else none))) else (if w1 = (16 : Int32) then (aLet (X9_takeNumber_1 a1 (0 : Int32) (0 : Int32) (99 : Int32) (aI w5 1 8 ((w5.1 1 8) + (1 : Int32)))) (fun w71 => (if w71.1 = 0 ∨ w71.1 = 1 then some ((w71.1, w71.2)) else none))) else (if w1 = (17 : Int32) then (aLet (X9_takeNumber_1 a1 (0 : Int32) (0 : Int32) (5 : Int32) (aI w5 1 8 ((w5.1 1 8) + (1 : Int32)))) (fun w75 => (if w75.1 = (0 : Int32) then some (((0 : Int32), w75.2)) else (aLet (X9_readDue_1 a1 w75.2) (fun w78 => (if w78.1 = (0 : Int32) then some (((0 : Int32), w78.2)) else some (((1 : Int32), w78.2)))))))) else none))))))))))) else some (((0 : Int32), S))))))
set_option maxHeartbeats 4000000 in
set_option maxRecDepth 100000 in
theorem J_X9_readLine_1 (l : Launch) (g : aWg) (N : Nat) (a1 : Int32) (S : aSt) {r : Int32 × aSt} (hf : X9_readLine_1 N a1 S = (some r)) : aJ l g yX9_readLine M_X9_readLine [.ref 1, .int a1] LAY S (some (.int r.1)) LAY r.2 0 0 := by
  refine aJ_of (by decide +kernel) rfl (Nat.le_of_ble_eq_true rfl) (fun h => nomatch h) ?_
  intro C hg hl hC hz hF
  subst hg; subst hl
  have hT := ok_X9_readLine
  unfold X9_readLine_1 at hf
  show aX C M_X9_readLine 0 0 (0, [(0, .ref 1), (1, .int a1)], [], LAY, S)
  refine aRun_ok hC hT 4 (cf' := (8, [(0, .ref 1), (1, .int a1)], [.int (S.1 1 8), .ref 3], LAY, S)) (by rfl) ?_
  obtain ⟨w1, ew2, hf⟩ := aLetE hf
  refine aCallS (As := [.ref 3, .int (S.1 1 8)]) (rest := []) hC hT rfl k_X9_readLine_40.1 _ k_X9_readLine_40.2 (by rfl) (Nat.le_of_ble_eq_true rfl) (by decide) (J_X6_at_3 C.2.2.1 C.1 (S.1 1 8) S ew2) ?_
  refine aRun_ok hC hT 3 (cf' := (15, [(2, .int w1), (0, .ref 1), (1, .int a1)], [.int (10 : Int32), .int w1], LAY, S)) (by rfl) ?_
  refine aCmp_lt hC hT (tgt := 24) rfl (by decide) (fun hc3 => ?_) (fun hc3 => ?_)
  · have hf := aIfT hf hc3
    refine aRun_ok hC hT 1 (cf' := (25, [(2, .int w1), (0, .ref 1), (1, .int a1)], [.int (0 : Int32)], LAY, S)) (by rfl) ?_
    have e9 := Option.some.inj hf; subst e9
    exact aRetB hC hT hF rfl (Or.inl rfl) rfl
  · have hf := aIfF hf hc3
    refine aRun_ok hC hT 2 (cf' := (21, [(2, .int w1), (0, .ref 1), (1, .int a1)], [.int (17 : Int32), .int w1], LAY, S)) (by rfl) ?_
    refine aCmp_le hC hT (tgt := 26) rfl (by decide) (fun hc4 => ?_) (fun hc4 => ?_)
    · have hf := aIfT hf hc4
      refine aRun_ok hC hT 4 (cf' := (32, [(2, .int w1), (0, .ref 1), (1, .int a1)], [.int w1, .int a1, .ref 6], LAY, S)) (by rfl) ?_
      obtain ⟨w5, ew6, hf⟩ := aLetE hf
      refine aCallS (As := [.ref 6, .int a1, .int w1]) (rest := []) hC hT rfl k_X9_readLine_34.1 _ k_X9_readLine_34.2 (by rfl) (Nat.le_of_ble_eq_true rfl) (by decide) (J_X6_set_6 C.2.2.1 C.1 a1 w1 S ew6) ?_
      refine aRun_ok hC hT 7 (cf' := (46, [(2, .int w1), (0, .ref 1), (1, .int a1)], [.int w1], LAY, (aI w5 1 8 ((w5.1 1 8) + (1 : Int32))))) (by rfl) ?_
      rcases aTswE hf with ⟨hc7, hf⟩ | ⟨hc7, hf⟩
      · refine aTswD hC hT (tgt := 271) rfl hc7 (by decide) ?_
        refine aRun_ok hC hT 5 (cf' := (277, [(2, .int w1), (0, .ref 1), (1, .int a1)], [.int (99 : Int32), .int (0 : Int32), .int (0 : Int32), .int a1, .ref 1], LAY, (aI w5 1 8 ((w5.1 1 8) + (1 : Int32))))) (by rfl) ?_
        obtain ⟨w8, ew9, hf⟩ := aLetE hf
        refine aCallV (b := 1) (As := [.int a1, .int (0 : Int32), .int (0 : Int32), .int (99 : Int32)]) (rest := []) hC hT rfl k_X9_readLine_58.1 _ _ k_X9_readLine_58.2 (by decide) (by rfl) (by rfl) (by rfl) (Nat.le_of_ble_eq_true rfl) (by decide) (J_X9_takeNumber_1 C.2.2.1 C.1 a1 (0 : Int32) (0 : Int32) (99 : Int32) (aI w5 1 8 ((w5.1 1 8) + (1 : Int32))) ew9) ?_
        obtain ⟨hb10, hf⟩ := aGdE hf
        have e9 := Option.some.inj hf; subst e9
        exact aRetB hC hT hF rfl hb10 rfl
      · rcases aIfE hf with ⟨hc11, hf⟩ | ⟨-, hf⟩
        · refine aTsw hC hT (off := 46) (tgt := 92) rfl (10 : Int32) hc11 (by decide) (by decide) (by rfl) (by decide) ?_
          refine aRun_ok hC hT 5 (cf' := (98, [(2, .int w1), (0, .ref 1), (1, .int a1)], [.int (999999 : Int32), .int (1 : Int32), .int (0 : Int32), .int a1, .ref 1], LAY, (aI w5 1 8 ((w5.1 1 8) + (1 : Int32))))) (by rfl) ?_
          obtain ⟨w12, ew13, hf⟩ := aLetE hf
          refine aCallV (b := 1) (As := [.int a1, .int (0 : Int32), .int (1 : Int32), .int (999999 : Int32)]) (rest := []) hC hT rfl k_X9_readLine_58.1 _ _ k_X9_readLine_58.2 (by decide) (by rfl) (by rfl) (by rfl) (Nat.le_of_ble_eq_true rfl) (by decide) (J_X9_takeNumber_1 C.2.2.1 C.1 a1 (0 : Int32) (1 : Int32) (999999 : Int32) (aI w5 1 8 ((w5.1 1 8) + (1 : Int32))) ew13) ?_
          refine aIf_eq hC hT (tgt := 142) rfl (by decide) (fun hc14 => ?_) (fun hc14 => ?_)
          · have hf := aIfT hf hc14
            refine aRun_ok hC hT 1 (cf' := (143, [(2, .int w1), (0, .ref 1), (1, .int a1)], [.int (0 : Int32)], LAY, w12.2)) (by rfl) ?_
            have e9 := Option.some.inj hf; subst e9
            exact aRetB hC hT hF rfl (Or.inl rfl) rfl
          · have hf := aIfF hf hc14
            refine aRun_ok hC hT 5 (cf' := (110, [(2, .int w1), (0, .ref 1), (1, .int a1)], [.int (7 : Int32), .int (0 : Int32), .int (1 : Int32), .int a1, .ref 1], LAY, w12.2)) (by rfl) ?_
            obtain ⟨w15, ew16, hf⟩ := aLetE hf
            refine aCallV (b := 1) (As := [.int a1, .int (1 : Int32), .int (0 : Int32), .int (7 : Int32)]) (rest := []) hC hT rfl k_X9_readLine_58.1 _ _ k_X9_readLine_58.2 (by decide) (by rfl) (by rfl) (by rfl) (Nat.le_of_ble_eq_true rfl) (by decide) (J_X9_takeNumber_1 C.2.2.1 C.1 a1 (1 : Int32) (0 : Int32) (7 : Int32) w12.2 ew16) ?_
            refine aIf_eq hC hT (tgt := 142) rfl (by decide) (fun hc17 => ?_) (fun hc17 => ?_)
            · have hf := aIfT hf hc17
              refine aRun_ok hC hT 1 (cf' := (143, [(2, .int w1), (0, .ref 1), (1, .int a1)], [.int (0 : Int32)], LAY, w15.2)) (by rfl) ?_
              have e9 := Option.some.inj hf; subst e9
              exact aRetB hC hT hF rfl (Or.inl rfl) rfl
            · have hf := aIfF hf hc17
              refine aRun_ok hC hT 5 (cf' := (121, [(2, .int w1), (0, .ref 1), (1, .int a1)], [.int (3 : Int32), .int (0 : Int32), .int (2 : Int32), .int a1, .ref 1], LAY, w15.2)) (by rfl) ?_
              obtain ⟨w18, ew19, hf⟩ := aLetE hf
              refine aCallV (b := 1) (As := [.int a1, .int (2 : Int32), .int (0 : Int32), .int (3 : Int32)]) (rest := []) hC hT rfl k_X9_readLine_58.1 _ _ k_X9_readLine_58.2 (by decide) (by rfl) (by rfl) (by rfl) (Nat.le_of_ble_eq_true rfl) (by decide) (J_X9_takeNumber_1 C.2.2.1 C.1 a1 (2 : Int32) (0 : Int32) (3 : Int32) w15.2 ew19) ?_
              refine aIf_eq hC hT (tgt := 142) rfl (by decide) (fun hc20 => ?_) (fun hc20 => ?_)
              · have hf := aIfT hf hc20
                refine aRun_ok hC hT 1 (cf' := (143, [(2, .int w1), (0, .ref 1), (1, .int a1)], [.int (0 : Int32)], LAY, w18.2)) (by rfl) ?_
                have e9 := Option.some.inj hf; subst e9
                exact aRetB hC hT hF rfl (Or.inl rfl) rfl
              · have hf := aIfF hf hc20
                refine aRun_ok hC hT 5 (cf' := (132, [(2, .int w1), (0, .ref 1), (1, .int a1)], [.int (5 : Int32), .int (0 : Int32), .int (3 : Int32), .int a1, .ref 1], LAY, w18.2)) (by rfl) ?_
                obtain ⟨w21, ew22, hf⟩ := aLetE hf
                refine aCallV (b := 1) (As := [.int a1, .int (3 : Int32), .int (0 : Int32), .int (5 : Int32)]) (rest := []) hC hT rfl k_X9_readLine_58.1 _ _ k_X9_readLine_58.2 (by decide) (by rfl) (by rfl) (by rfl) (Nat.le_of_ble_eq_true rfl) (by decide) (J_X9_takeNumber_1 C.2.2.1 C.1 a1 (3 : Int32) (0 : Int32) (5 : Int32) w18.2 ew22) ?_
                refine aIf_eq hC hT (tgt := 142) rfl (by decide) (fun hc23 => ?_) (fun hc23 => ?_)
                · have hf := aIfT hf hc23
                  refine aRun_ok hC hT 1 (cf' := (143, [(2, .int w1), (0, .ref 1), (1, .int a1)], [.int (0 : Int32)], LAY, w21.2)) (by rfl) ?_
                  have e9 := Option.some.inj hf; subst e9
                  exact aRetB hC hT hF rfl (Or.inl rfl) rfl
                · have hf := aIfF hf hc23
                  refine aRun_ok hC hT 2 (cf' := (143, [(2, .int w1), (0, .ref 1), (1, .int a1)], [.int (1 : Int32)], LAY, w21.2)) (by rfl) ?_
                  have e9 := Option.some.inj hf; subst e9
                  exact aRetB hC hT hF rfl (Or.inr rfl) rfl
        · rcases aIfE hf with ⟨hc24, hf⟩ | ⟨-, hf⟩
          · refine aTsw hC hT (off := 46) (tgt := 92) rfl (11 : Int32) hc24 (by decide) (by decide) (by rfl) (by decide) ?_
            refine aRun_ok hC hT 5 (cf' := (98, [(2, .int w1), (0, .ref 1), (1, .int a1)], [.int (999999 : Int32), .int (1 : Int32), .int (0 : Int32), .int a1, .ref 1], LAY, (aI w5 1 8 ((w5.1 1 8) + (1 : Int32))))) (by rfl) ?_
            obtain ⟨w25, ew26, hf⟩ := aLetE hf
            refine aCallV (b := 1) (As := [.int a1, .int (0 : Int32), .int (1 : Int32), .int (999999 : Int32)]) (rest := []) hC hT rfl k_X9_readLine_58.1 _ _ k_X9_readLine_58.2 (by decide) (by rfl) (by rfl) (by rfl) (Nat.le_of_ble_eq_true rfl) (by decide) (J_X9_takeNumber_1 C.2.2.1 C.1 a1 (0 : Int32) (1 : Int32) (999999 : Int32) (aI w5 1 8 ((w5.1 1 8) + (1 : Int32))) ew26) ?_
            refine aIf_eq hC hT (tgt := 142) rfl (by decide) (fun hc27 => ?_) (fun hc27 => ?_)
            · have hf := aIfT hf hc27
              refine aRun_ok hC hT 1 (cf' := (143, [(2, .int w1), (0, .ref 1), (1, .int a1)], [.int (0 : Int32)], LAY, w25.2)) (by rfl) ?_
              have e9 := Option.some.inj hf; subst e9
              exact aRetB hC hT hF rfl (Or.inl rfl) rfl
            · have hf := aIfF hf hc27
              refine aRun_ok hC hT 5 (cf' := (110, [(2, .int w1), (0, .ref 1), (1, .int a1)], [.int (7 : Int32), .int (0 : Int32), .int (1 : Int32), .int a1, .ref 1], LAY, w25.2)) (by rfl) ?_
              obtain ⟨w28, ew29, hf⟩ := aLetE hf
              refine aCallV (b := 1) (As := [.int a1, .int (1 : Int32), .int (0 : Int32), .int (7 : Int32)]) (rest := []) hC hT rfl k_X9_readLine_58.1 _ _ k_X9_readLine_58.2 (by decide) (by rfl) (by rfl) (by rfl) (Nat.le_of_ble_eq_true rfl) (by decide) (J_X9_takeNumber_1 C.2.2.1 C.1 a1 (1 : Int32) (0 : Int32) (7 : Int32) w25.2 ew29) ?_
              refine aIf_eq hC hT (tgt := 142) rfl (by decide) (fun hc30 => ?_) (fun hc30 => ?_)
              · have hf := aIfT hf hc30
                refine aRun_ok hC hT 1 (cf' := (143, [(2, .int w1), (0, .ref 1), (1, .int a1)], [.int (0 : Int32)], LAY, w28.2)) (by rfl) ?_
                have e9 := Option.some.inj hf; subst e9
                exact aRetB hC hT hF rfl (Or.inl rfl) rfl
              · have hf := aIfF hf hc30
                refine aRun_ok hC hT 5 (cf' := (121, [(2, .int w1), (0, .ref 1), (1, .int a1)], [.int (3 : Int32), .int (0 : Int32), .int (2 : Int32), .int a1, .ref 1], LAY, w28.2)) (by rfl) ?_
                obtain ⟨w31, ew32, hf⟩ := aLetE hf
                refine aCallV (b := 1) (As := [.int a1, .int (2 : Int32), .int (0 : Int32), .int (3 : Int32)]) (rest := []) hC hT rfl k_X9_readLine_58.1 _ _ k_X9_readLine_58.2 (by decide) (by rfl) (by rfl) (by rfl) (Nat.le_of_ble_eq_true rfl) (by decide) (J_X9_takeNumber_1 C.2.2.1 C.1 a1 (2 : Int32) (0 : Int32) (3 : Int32) w28.2 ew32) ?_
                refine aIf_eq hC hT (tgt := 142) rfl (by decide) (fun hc33 => ?_) (fun hc33 => ?_)
                · have hf := aIfT hf hc33
                  refine aRun_ok hC hT 1 (cf' := (143, [(2, .int w1), (0, .ref 1), (1, .int a1)], [.int (0 : Int32)], LAY, w31.2)) (by rfl) ?_
                  have e9 := Option.some.inj hf; subst e9
                  exact aRetB hC hT hF rfl (Or.inl rfl) rfl
                · have hf := aIfF hf hc33
                  refine aRun_ok hC hT 5 (cf' := (132, [(2, .int w1), (0, .ref 1), (1, .int a1)], [.int (5 : Int32), .int (0 : Int32), .int (3 : Int32), .int a1, .ref 1], LAY, w31.2)) (by rfl) ?_
                  obtain ⟨w34, ew35, hf⟩ := aLetE hf
                  refine aCallV (b := 1) (As := [.int a1, .int (3 : Int32), .int (0 : Int32), .int (5 : Int32)]) (rest := []) hC hT rfl k_X9_readLine_58.1 _ _ k_X9_readLine_58.2 (by decide) (by rfl) (by rfl) (by rfl) (Nat.le_of_ble_eq_true rfl) (by decide) (J_X9_takeNumber_1 C.2.2.1 C.1 a1 (3 : Int32) (0 : Int32) (5 : Int32) w31.2 ew35) ?_
                  refine aIf_eq hC hT (tgt := 142) rfl (by decide) (fun hc36 => ?_) (fun hc36 => ?_)
                  · have hf := aIfT hf hc36
                    refine aRun_ok hC hT 1 (cf' := (143, [(2, .int w1), (0, .ref 1), (1, .int a1)], [.int (0 : Int32)], LAY, w34.2)) (by rfl) ?_
                    have e9 := Option.some.inj hf; subst e9
                    exact aRetB hC hT hF rfl (Or.inl rfl) rfl
                  · have hf := aIfF hf hc36
                    refine aRun_ok hC hT 2 (cf' := (143, [(2, .int w1), (0, .ref 1), (1, .int a1)], [.int (1 : Int32)], LAY, w34.2)) (by rfl) ?_
                    have e9 := Option.some.inj hf; subst e9
                    exact aRetB hC hT hF rfl (Or.inr rfl) rfl
          · rcases aIfE hf with ⟨hc37, hf⟩ | ⟨-, hf⟩
            · refine aTsw hC hT (off := 98) (tgt := 144) rfl (12 : Int32) hc37 (by decide) (by decide) (by rfl) (by decide) ?_
              refine aRun_ok hC hT 5 (cf' := (149, [(2, .int w1), (0, .ref 1), (1, .int a1)], [.int (3 : Int32), .int (0 : Int32), .int (0 : Int32), .int a1, .ref 1], LAY, (aI w5 1 8 ((w5.1 1 8) + (1 : Int32))))) (by rfl) ?_
              obtain ⟨w38, ew39, hf⟩ := aLetE hf
              refine aCallV (b := 1) (As := [.int a1, .int (0 : Int32), .int (0 : Int32), .int (3 : Int32)]) (rest := []) hC hT rfl k_X9_readLine_58.1 _ _ k_X9_readLine_58.2 (by decide) (by rfl) (by rfl) (by rfl) (Nat.le_of_ble_eq_true rfl) (by decide) (J_X9_takeNumber_1 C.2.2.1 C.1 a1 (0 : Int32) (0 : Int32) (3 : Int32) (aI w5 1 8 ((w5.1 1 8) + (1 : Int32))) ew39) ?_
              refine aIf_eq hC hT (tgt := 182) rfl (by decide) (fun hc40 => ?_) (fun hc40 => ?_)
              · have hf := aIfT hf hc40
                refine aRun_ok hC hT 1 (cf' := (183, [(2, .int w1), (0, .ref 1), (1, .int a1)], [.int (0 : Int32)], LAY, w38.2)) (by rfl) ?_
                have e9 := Option.some.inj hf; subst e9
                exact aRetB hC hT hF rfl (Or.inl rfl) rfl
              · have hf := aIfF hf hc40
                refine aRun_ok hC hT 5 (cf' := (160, [(2, .int w1), (0, .ref 1), (1, .int a1)], [.int (4 : Int32), .int (0 : Int32), .int (1 : Int32), .int a1, .ref 1], LAY, w38.2)) (by rfl) ?_
                obtain ⟨w41, ew42, hf⟩ := aLetE hf
                refine aCallV (b := 1) (As := [.int a1, .int (1 : Int32), .int (0 : Int32), .int (4 : Int32)]) (rest := []) hC hT rfl k_X9_readLine_58.1 _ _ k_X9_readLine_58.2 (by decide) (by rfl) (by rfl) (by rfl) (Nat.le_of_ble_eq_true rfl) (by decide) (J_X9_takeNumber_1 C.2.2.1 C.1 a1 (1 : Int32) (0 : Int32) (4 : Int32) w38.2 ew42) ?_
                refine aIf_eq hC hT (tgt := 182) rfl (by decide) (fun hc43 => ?_) (fun hc43 => ?_)
                · have hf := aIfT hf hc43
                  refine aRun_ok hC hT 1 (cf' := (183, [(2, .int w1), (0, .ref 1), (1, .int a1)], [.int (0 : Int32)], LAY, w41.2)) (by rfl) ?_
                  have e9 := Option.some.inj hf; subst e9
                  exact aRetB hC hT hF rfl (Or.inl rfl) rfl
                · have hf := aIfF hf hc43
                  refine aRun_ok hC hT 5 (cf' := (172, [(2, .int w1), (0, .ref 1), (1, .int a1)], [.int (99 : Int32), .int (0 : Int32), .int (2 : Int32), .int a1, .ref 1], LAY, w41.2)) (by rfl) ?_
                  obtain ⟨w44, ew45, hf⟩ := aLetE hf
                  refine aCallV (b := 1) (As := [.int a1, .int (2 : Int32), .int (0 : Int32), .int (99 : Int32)]) (rest := []) hC hT rfl k_X9_readLine_58.1 _ _ k_X9_readLine_58.2 (by decide) (by rfl) (by rfl) (by rfl) (Nat.le_of_ble_eq_true rfl) (by decide) (J_X9_takeNumber_1 C.2.2.1 C.1 a1 (2 : Int32) (0 : Int32) (99 : Int32) w41.2 ew45) ?_
                  refine aIf_eq hC hT (tgt := 182) rfl (by decide) (fun hc46 => ?_) (fun hc46 => ?_)
                  · have hf := aIfT hf hc46
                    refine aRun_ok hC hT 1 (cf' := (183, [(2, .int w1), (0, .ref 1), (1, .int a1)], [.int (0 : Int32)], LAY, w44.2)) (by rfl) ?_
                    have e9 := Option.some.inj hf; subst e9
                    exact aRetB hC hT hF rfl (Or.inl rfl) rfl
                  · have hf := aIfF hf hc46
                    refine aRun_ok hC hT 2 (cf' := (183, [(2, .int w1), (0, .ref 1), (1, .int a1)], [.int (1 : Int32)], LAY, w44.2)) (by rfl) ?_
                    have e9 := Option.some.inj hf; subst e9
                    exact aRetB hC hT hF rfl (Or.inr rfl) rfl
            · rcases aIfE hf with ⟨hc47, hf⟩ | ⟨-, hf⟩
              · refine aTsw hC hT (off := 138) (tgt := 184) rfl (13 : Int32) hc47 (by decide) (by decide) (by rfl) (by decide) ?_
                refine aRun_ok hC hT 5 (cf' := (190, [(2, .int w1), (0, .ref 1), (1, .int a1)], [.int (9 : Int32), .int (0 : Int32), .int (0 : Int32), .int a1, .ref 1], LAY, (aI w5 1 8 ((w5.1 1 8) + (1 : Int32))))) (by rfl) ?_
                obtain ⟨w48, ew49, hf⟩ := aLetE hf
                refine aCallV (b := 1) (As := [.int a1, .int (0 : Int32), .int (0 : Int32), .int (9 : Int32)]) (rest := []) hC hT rfl k_X9_readLine_58.1 _ _ k_X9_readLine_58.2 (by decide) (by rfl) (by rfl) (by rfl) (Nat.le_of_ble_eq_true rfl) (by decide) (J_X9_takeNumber_1 C.2.2.1 C.1 a1 (0 : Int32) (0 : Int32) (9 : Int32) (aI w5 1 8 ((w5.1 1 8) + (1 : Int32))) ew49) ?_
                refine aIf_eq hC hT (tgt := 244) rfl (by decide) (fun hc50 => ?_) (fun hc50 => ?_)
                · have hf := aIfT hf hc50
                  refine aRun_ok hC hT 1 (cf' := (245, [(2, .int w1), (0, .ref 1), (1, .int a1)], [.int (0 : Int32)], LAY, w48.2)) (by rfl) ?_
                  have e9 := Option.some.inj hf; subst e9
                  exact aRetB hC hT hF rfl (Or.inl rfl) rfl
                · have hf := aIfF hf hc50
                  refine aRun_ok hC hT 4 (cf' := (204, [(2, .int w1), (0, .ref 1), (1, .int a1)], [.int (w48.2.1 1 8), .ref 5], LAY, w48.2)) (by rfl) ?_
                  obtain ⟨w51, ew52, hf⟩ := aLetE hf
                  refine aCallS (As := [.ref 5, .int (w48.2.1 1 8)]) (rest := []) hC hT rfl k_X9_readLine_40.1 _ k_X9_readLine_40.2 (by rfl) (Nat.le_of_ble_eq_true rfl) (by decide) (J_X6_at_5 C.2.2.1 C.1 (w48.2.1 1 8) w48.2 ew52) ?_
                  refine aRun_ok hC hT 3 (cf' := (210, [(2, .int w1), (0, .ref 1), (1, .int a1)], [.int (0 : Int32), .int a1, .ref 1, .int w51], LAY, w48.2)) (by rfl) ?_
                  obtain ⟨w53, ew54, hf⟩ := aLetE hf
                  refine aCallV (b := 1) (As := [.int a1, .int (0 : Int32)]) (rest := [.int w51]) hC hT rfl k_X9_readLine_62.1 _ _ k_X9_readLine_62.2 (by decide) (by rfl) (by rfl) (by rfl) (Nat.le_of_ble_eq_true rfl) (by decide) (J_X9_number_1 C.2.2.1 C.1 a1 (0 : Int32) w48.2 ew54) ?_
                  refine aCmp_eq hC hT (tgt := 244) rfl (by decide) (fun hc55 => ?_) (fun hc55 => ?_)
                  · have hf := aIfT hf hc55
                    refine aRun_ok hC hT 1 (cf' := (245, [(2, .int w1), (0, .ref 1), (1, .int a1)], [.int (0 : Int32)], LAY, w48.2)) (by rfl) ?_
                    have e9 := Option.some.inj hf; subst e9
                    exact aRetB hC hT hF rfl (Or.inl rfl) rfl
                  · have hf := aIfF hf hc55
                    refine aRun_ok hC hT 5 (cf' := (222, [(2, .int w1), (0, .ref 1), (1, .int a1)], [.int (9 : Int32), .int (0 : Int32), .int (1 : Int32), .int a1, .ref 1], LAY, w48.2)) (by rfl) ?_
                    obtain ⟨w56, ew57, hf⟩ := aLetE hf
                    refine aCallV (b := 1) (As := [.int a1, .int (1 : Int32), .int (0 : Int32), .int (9 : Int32)]) (rest := []) hC hT rfl k_X9_readLine_58.1 _ _ k_X9_readLine_58.2 (by decide) (by rfl) (by rfl) (by rfl) (Nat.le_of_ble_eq_true rfl) (by decide) (J_X9_takeNumber_1 C.2.2.1 C.1 a1 (1 : Int32) (0 : Int32) (9 : Int32) w48.2 ew57) ?_
                    refine aIf_eq hC hT (tgt := 244) rfl (by decide) (fun hc58 => ?_) (fun hc58 => ?_)
                    · have hf := aIfT hf hc58
                      refine aRun_ok hC hT 1 (cf' := (245, [(2, .int w1), (0, .ref 1), (1, .int a1)], [.int (0 : Int32)], LAY, w56.2)) (by rfl) ?_
                      have e9 := Option.some.inj hf; subst e9
                      exact aRetB hC hT hF rfl (Or.inl rfl) rfl
                    · have hf := aIfF hf hc58
                      refine aRun_ok hC hT 5 (cf' := (234, [(2, .int w1), (0, .ref 1), (1, .int a1)], [.int (99 : Int32), .int (0 : Int32), .int (2 : Int32), .int a1, .ref 1], LAY, w56.2)) (by rfl) ?_
                      obtain ⟨w59, ew60, hf⟩ := aLetE hf
                      refine aCallV (b := 1) (As := [.int a1, .int (2 : Int32), .int (0 : Int32), .int (99 : Int32)]) (rest := []) hC hT rfl k_X9_readLine_58.1 _ _ k_X9_readLine_58.2 (by decide) (by rfl) (by rfl) (by rfl) (Nat.le_of_ble_eq_true rfl) (by decide) (J_X9_takeNumber_1 C.2.2.1 C.1 a1 (2 : Int32) (0 : Int32) (99 : Int32) w56.2 ew60) ?_
                      refine aIf_eq hC hT (tgt := 244) rfl (by decide) (fun hc61 => ?_) (fun hc61 => ?_)
                      · have hf := aIfT hf hc61
                        refine aRun_ok hC hT 1 (cf' := (245, [(2, .int w1), (0, .ref 1), (1, .int a1)], [.int (0 : Int32)], LAY, w59.2)) (by rfl) ?_
                        have e9 := Option.some.inj hf; subst e9
                        exact aRetB hC hT hF rfl (Or.inl rfl) rfl
                      · have hf := aIfF hf hc61
                        refine aRun_ok hC hT 2 (cf' := (245, [(2, .int w1), (0, .ref 1), (1, .int a1)], [.int (1 : Int32)], LAY, w59.2)) (by rfl) ?_
                        have e9 := Option.some.inj hf; subst e9
                        exact aRetB hC hT hF rfl (Or.inr rfl) rfl
              · rcases aIfE hf with ⟨hc62, hf⟩ | ⟨-, hf⟩
                · refine aTsw hC hT (off := 225) (tgt := 271) rfl (14 : Int32) hc62 (by decide) (by decide) (by rfl) (by decide) ?_
                  refine aRun_ok hC hT 5 (cf' := (277, [(2, .int w1), (0, .ref 1), (1, .int a1)], [.int (99 : Int32), .int (0 : Int32), .int (0 : Int32), .int a1, .ref 1], LAY, (aI w5 1 8 ((w5.1 1 8) + (1 : Int32))))) (by rfl) ?_
                  obtain ⟨w63, ew64, hf⟩ := aLetE hf
                  refine aCallV (b := 1) (As := [.int a1, .int (0 : Int32), .int (0 : Int32), .int (99 : Int32)]) (rest := []) hC hT rfl k_X9_readLine_58.1 _ _ k_X9_readLine_58.2 (by decide) (by rfl) (by rfl) (by rfl) (Nat.le_of_ble_eq_true rfl) (by decide) (J_X9_takeNumber_1 C.2.2.1 C.1 a1 (0 : Int32) (0 : Int32) (99 : Int32) (aI w5 1 8 ((w5.1 1 8) + (1 : Int32))) ew64) ?_
                  obtain ⟨hb65, hf⟩ := aGdE hf
                  have e9 := Option.some.inj hf; subst e9
                  exact aRetB hC hT hF rfl hb65 rfl
                · rcases aIfE hf with ⟨hc66, hf⟩ | ⟨-, hf⟩
                  · refine aTsw hC hT (off := 225) (tgt := 271) rfl (15 : Int32) hc66 (by decide) (by decide) (by rfl) (by decide) ?_
                    refine aRun_ok hC hT 5 (cf' := (277, [(2, .int w1), (0, .ref 1), (1, .int a1)], [.int (99 : Int32), .int (0 : Int32), .int (0 : Int32), .int a1, .ref 1], LAY, (aI w5 1 8 ((w5.1 1 8) + (1 : Int32))))) (by rfl) ?_
                    obtain ⟨w67, ew68, hf⟩ := aLetE hf
                    refine aCallV (b := 1) (As := [.int a1, .int (0 : Int32), .int (0 : Int32), .int (99 : Int32)]) (rest := []) hC hT rfl k_X9_readLine_58.1 _ _ k_X9_readLine_58.2 (by decide) (by rfl) (by rfl) (by rfl) (Nat.le_of_ble_eq_true rfl) (by decide) (J_X9_takeNumber_1 C.2.2.1 C.1 a1 (0 : Int32) (0 : Int32) (99 : Int32) (aI w5 1 8 ((w5.1 1 8) + (1 : Int32))) ew68) ?_
                    obtain ⟨hb69, hf⟩ := aGdE hf
                    have e9 := Option.some.inj hf; subst e9
                    exact aRetB hC hT hF rfl hb69 rfl
                  · rcases aIfE hf with ⟨hc70, hf⟩ | ⟨-, hf⟩
                    · refine aTsw hC hT (off := 225) (tgt := 271) rfl (16 : Int32) hc70 (by decide) (by decide) (by rfl) (by decide) ?_
                      refine aRun_ok hC hT 5 (cf' := (277, [(2, .int w1), (0, .ref 1), (1, .int a1)], [.int (99 : Int32), .int (0 : Int32), .int (0 : Int32), .int a1, .ref 1], LAY, (aI w5 1 8 ((w5.1 1 8) + (1 : Int32))))) (by rfl) ?_
                      obtain ⟨w71, ew72, hf⟩ := aLetE hf
                      refine aCallV (b := 1) (As := [.int a1, .int (0 : Int32), .int (0 : Int32), .int (99 : Int32)]) (rest := []) hC hT rfl k_X9_readLine_58.1 _ _ k_X9_readLine_58.2 (by decide) (by rfl) (by rfl) (by rfl) (Nat.le_of_ble_eq_true rfl) (by decide) (J_X9_takeNumber_1 C.2.2.1 C.1 a1 (0 : Int32) (0 : Int32) (99 : Int32) (aI w5 1 8 ((w5.1 1 8) + (1 : Int32))) ew72) ?_
                      obtain ⟨hb73, hf⟩ := aGdE hf
                      have e9 := Option.some.inj hf; subst e9
                      exact aRetB hC hT hF rfl hb73 rfl
                    · rcases aIfE hf with ⟨hc74, hf⟩ | ⟨-, hf⟩
                      · refine aTsw hC hT (off := 200) (tgt := 246) rfl (17 : Int32) hc74 (by decide) (by decide) (by rfl) (by decide) ?_
                        refine aRun_ok hC hT 5 (cf' := (251, [(2, .int w1), (0, .ref 1), (1, .int a1)], [.int (5 : Int32), .int (0 : Int32), .int (0 : Int32), .int a1, .ref 1], LAY, (aI w5 1 8 ((w5.1 1 8) + (1 : Int32))))) (by rfl) ?_
                        obtain ⟨w75, ew76, hf⟩ := aLetE hf
                        refine aCallV (b := 1) (As := [.int a1, .int (0 : Int32), .int (0 : Int32), .int (5 : Int32)]) (rest := []) hC hT rfl k_X9_readLine_58.1 _ _ k_X9_readLine_58.2 (by decide) (by rfl) (by rfl) (by rfl) (Nat.le_of_ble_eq_true rfl) (by decide) (J_X9_takeNumber_1 C.2.2.1 C.1 a1 (0 : Int32) (0 : Int32) (5 : Int32) (aI w5 1 8 ((w5.1 1 8) + (1 : Int32))) ew76) ?_
                        refine aIf_eq hC hT (tgt := 269) rfl (by decide) (fun hc77 => ?_) (fun hc77 => ?_)
                        · have hf := aIfT hf hc77
                          refine aRun_ok hC hT 1 (cf' := (270, [(2, .int w1), (0, .ref 1), (1, .int a1)], [.int (0 : Int32)], LAY, w75.2)) (by rfl) ?_
                          have e9 := Option.some.inj hf; subst e9
                          exact aRetB hC hT hF rfl (Or.inl rfl) rfl
                        · have hf := aIfF hf hc77
                          refine aRun_ok hC hT 2 (cf' := (259, [(2, .int w1), (0, .ref 1), (1, .int a1)], [.int a1, .ref 1], LAY, w75.2)) (by rfl) ?_
                          obtain ⟨w78, ew79, hf⟩ := aLetE hf
                          refine aCallV (b := 1) (As := [.int a1]) (rest := []) hC hT rfl k_X9_readLine_66.1 _ _ k_X9_readLine_66.2 (by decide) (by rfl) (by rfl) (by rfl) (Nat.le_of_ble_eq_true rfl) (by decide) (J_X9_readDue_1 C.2.2.1 C.1 a1 w75.2 ew79) ?_
                          refine aIf_eq hC hT (tgt := 269) rfl (by decide) (fun hc80 => ?_) (fun hc80 => ?_)
                          · have hf := aIfT hf hc80
                            refine aRun_ok hC hT 1 (cf' := (270, [(2, .int w1), (0, .ref 1), (1, .int a1)], [.int (0 : Int32)], LAY, w78.2)) (by rfl) ?_
                            have e9 := Option.some.inj hf; subst e9
                            exact aRetB hC hT hF rfl (Or.inl rfl) rfl
                          · have hf := aIfF hf hc80
                            refine aRun_ok hC hT 2 (cf' := (270, [(2, .int w1), (0, .ref 1), (1, .int a1)], [.int (1 : Int32)], LAY, w78.2)) (by rfl) ?_
                            have e9 := Option.some.inj hf; subst e9
                            exact aRetB hC hT hF rfl (Or.inr rfl) rfl
                      · cases hf
    · have hf := aIfF hf hc4
      refine aRun_ok hC hT 1 (cf' := (25, [(2, .int w1), (0, .ref 1), (1, .int a1)], [.int (0 : Int32)], LAY, S)) (by rfl) ?_
      have e9 := Option.some.inj hf; subst e9
      exact aRetB hC hT hF rfl (Or.inl rfl) rfl
def X9_read_1_b112 (N : Nat) (S : aSt) : Option (Int32 × aSt) := (aLet (X6_at_4 (S.1 1 8) S) (fun w4 => some ((w4, S))))
set_option maxHeartbeats 4000000 in
set_option maxRecDepth 100000 in
theorem X9_read_1_b112_ok {C : aC} {N : Nat} (hC : aCx C M_X9_read) {r : Int32 × aSt} (hF : aFin C (some (.int r.1)) LAY r.2 0 0) (S : aSt) (hf : X9_read_1_b112 N S = (some r)) : aX C M_X9_read 0 0 (112, [(0, .ref 1)], [], LAY, S) := by
  have hT := ok_X9_read
  unfold X9_read_1_b112 at hf
  refine aRun_ok hC hT 4 (cf' := (120, [(0, .ref 1)], [.int (S.1 1 8), .ref 4], LAY, S)) (by rfl) ?_
  obtain ⟨w4, ew5, hf⟩ := aLetE hf
  refine aCallS (As := [.ref 4, .int (S.1 1 8)]) (rest := []) hC hT rfl k_X9_read_40.1 _ k_X9_read_40.2 (by rfl) (Nat.le_of_ble_eq_true rfl) (by decide) (J_X6_at_4 C.2.2.1 C.1 (S.1 1 8) S ew5) ?_
  have e9 := Option.some.inj hf; subst e9
  exact aRetI hC hT hF rfl rfl
def X9_read_1_b84 (N : Nat) (S : aSt) : Option (Int32 × aSt) := (aLet (X6_at_4 (S.1 1 8) S) (fun w13 => some ((w13, S))))
set_option maxHeartbeats 4000000 in
set_option maxRecDepth 100000 in
theorem X9_read_1_b84_ok {C : aC} {N : Nat} (hC : aCx C M_X9_read) {r : Int32 × aSt} (hF : aFin C (some (.int r.1)) LAY r.2 0 0) (S : aSt) (hf : X9_read_1_b84 N S = (some r)) : aX C M_X9_read 0 0 (84, [(0, .ref 1)], [], LAY, S) := by
  have hT := ok_X9_read
  unfold X9_read_1_b84 at hf
  refine aRun_ok hC hT 4 (cf' := (92, [(0, .ref 1)], [.int (S.1 1 8), .ref 4], LAY, S)) (by rfl) ?_
  obtain ⟨w13, ew14, hf⟩ := aLetE hf
  refine aCallS (As := [.ref 4, .int (S.1 1 8)]) (rest := []) hC hT rfl k_X9_read_40.1 _ k_X9_read_40.2 (by rfl) (Nat.le_of_ble_eq_true rfl) (by decide) (J_X6_at_4 C.2.2.1 C.1 (S.1 1 8) S ew14) ?_
  have e9 := Option.some.inj hf; subst e9
  exact aRetI hC hT hF rfl rfl
def X9_read_1_b30 (N : Nat) (S : aSt) : Option (Int32 × aSt) := (aLet (X6_at_4 (S.1 1 8) S) (fun w16 => some ((w16, S))))
set_option maxHeartbeats 4000000 in
set_option maxRecDepth 100000 in
theorem X9_read_1_b30_ok {C : aC} {N : Nat} (hC : aCx C M_X9_read) {r : Int32 × aSt} (hF : aFin C (some (.int r.1)) LAY r.2 0 0) (S : aSt) (hf : X9_read_1_b30 N S = (some r)) : aX C M_X9_read 0 0 (30, [(0, .ref 1)], [], LAY, S) := by
  have hT := ok_X9_read
  unfold X9_read_1_b30 at hf
  refine aRun_ok hC hT 4 (cf' := (38, [(0, .ref 1)], [.int (S.1 1 8), .ref 4], LAY, S)) (by rfl) ?_
  obtain ⟨w16, ew17, hf⟩ := aLetE hf
  refine aCallS (As := [.ref 4, .int (S.1 1 8)]) (rest := []) hC hT rfl k_X9_read_40.1 _ k_X9_read_40.2 (by rfl) (Nat.le_of_ble_eq_true rfl) (by decide) (J_X6_at_4 C.2.2.1 C.1 (S.1 1 8) S ew17) ?_
  have e9 := Option.some.inj hf; subst e9
  exact aRetI hC hT hF rfl rfl
def X9_read_1_b16 (N : Nat) (rec16 : Int32 → aSt → Option (Int32 × aSt)) (v1 : Int32) (S : aSt) : Option (Int32 × aSt) := (if (10 : Int32) ≤ v1 then (X9_read_1_b112 N S) else (Option.bind (X9_readLine_1 N v1 S) (fun w6 => (if w6.1 = (0 : Int32) then (X9_read_1_b30 N w6.2) else (aLet (X6_at_3 (w6.2.1 1 8) (aI w6.2 1 1 ((w6.2.1 1 1) + (1 : Int32)))) (fun w9 => (if w9 = (0 : Int32) then some ((((-1) : Int32), (aI w6.2 1 1 ((w6.2.1 1 1) + (1 : Int32))))) else (if w9 = (2 : Int32) then (if ((w6.2.1 1 1) + (1 : Int32)) = (10 : Int32) then (X9_read_1_b84 N (aI w6.2 1 1 ((w6.2.1 1 1) + (1 : Int32)))) else (rec16 (v1 + (1 : Int32)) (aI (aI w6.2 1 1 ((w6.2.1 1 1) + (1 : Int32))) 1 8 ((w6.2.1 1 8) + (1 : Int32))))) else (X9_read_1_b84 N (aI w6.2 1 1 ((w6.2.1 1 1) + (1 : Int32))))))))))))
set_option maxHeartbeats 4000000 in
set_option maxRecDepth 100000 in
theorem X9_read_1_b16_ok {C : aC} {N : Nat} {rec16 : Int32 → aSt → Option (Int32 × aSt)} (hC : aCx C M_X9_read) {r : Int32 × aSt} (hF : aFin C (some (.int r.1)) LAY r.2 0 0) (hrec16 : ∀ (v1 : Int32) (S : aSt), rec16 v1 S = (some r) → aX C M_X9_read 0 0 (16, [(0, .ref 1), (1, .int v1)], [], LAY, S)) (v1 : Int32) (S : aSt) (hf : X9_read_1_b16 N rec16 v1 S = (some r)) : aX C M_X9_read 0 0 (16, [(0, .ref 1), (1, .int v1)], [], LAY, S) := by
  have hT := ok_X9_read
  unfold X9_read_1_b16 at hf
  refine aRun_ok hC hT 2 (cf' := (19, [(0, .ref 1), (1, .int v1)], [.int (10 : Int32), .int v1], LAY, S)) (by rfl) ?_
  refine aCmp_ge hC hT (tgt := 112) rfl (by decide) (fun hc3 => ?_) (fun hc3 => ?_)
  · have hf := aIfT hf hc3
    refine aLocs [0] (lv' := [(0, .ref 1)]) rfl ?_
    exact X9_read_1_b112_ok hC hF S hf
  · have hf := aIfF hf hc3
    refine aRun_ok hC hT 2 (cf' := (24, [(0, .ref 1), (1, .int v1)], [.int v1, .ref 1], LAY, S)) (by rfl) ?_
    obtain ⟨w6, ew7, hf⟩ := aBnE hf
    refine aCallV (b := 1) (As := [.int v1]) (rest := []) hC hT rfl k_X9_read_53.1 _ _ k_X9_read_53.2 (by decide) (by rfl) (by rfl) (by rfl) (Nat.le_of_ble_eq_true rfl) (by decide) (J_X9_readLine_1 C.2.2.1 C.1 N v1 S ew7) ?_
    refine aIf_ne hC hT (tgt := 42) rfl (by decide) (fun hc8 => ?_) (fun hc8 => ?_)
    · have hf := aIfF hf hc8
      refine aRun_ok hC hT 10 (cf' := (60, [(0, .ref 1), (1, .int v1)], [.int (w6.2.1 1 8), .ref 3], LAY, (aI w6.2 1 1 ((w6.2.1 1 1) + (1 : Int32))))) (by rfl) ?_
      obtain ⟨w9, ew10, hf⟩ := aLetE hf
      refine aCallS (As := [.ref 3, .int (w6.2.1 1 8)]) (rest := []) hC hT rfl k_X9_read_40.1 _ k_X9_read_40.2 (by rfl) (Nat.le_of_ble_eq_true rfl) (by decide) (J_X6_at_3 C.2.2.1 C.1 (w6.2.1 1 8) (aI w6.2 1 1 ((w6.2.1 1 1) + (1 : Int32))) ew10) ?_
      refine aRun_ok hC hT 2 (cf' := (65, [(2, .int w9), (0, .ref 1), (1, .int v1)], [.int w9], LAY, (aI w6.2 1 1 ((w6.2.1 1 1) + (1 : Int32))))) (by rfl) ?_
      refine aIf_ne hC hT (tgt := 70) rfl (by decide) (fun hc11 => ?_) (fun hc11 => ?_)
      · have hf := aIfF hf hc11
        refine aRun_ok hC hT 2 (cf' := (72, [(2, .int w9), (0, .ref 1), (1, .int v1)], [.int (2 : Int32), .int w9], LAY, (aI w6.2 1 1 ((w6.2.1 1 1) + (1 : Int32))))) (by rfl) ?_
        refine aCmp_ne hC hT (tgt := 84) rfl (by decide) (fun hc12 => ?_) (fun hc12 => ?_)
        · have hf := aIfF hf hc12
          refine aLocs [1] (lv' := [(0, .ref 1)]) rfl ?_
          exact X9_read_1_b84_ok hC hF (aI w6.2 1 1 ((w6.2.1 1 1) + (1 : Int32))) hf
        · have hf := aIfT hf hc12
          refine aRun_ok hC hT 3 (cf' := (81, [(2, .int w9), (0, .ref 1), (1, .int v1)], [.int (10 : Int32), .int ((w6.2.1 1 1) + (1 : Int32))], LAY, (aI w6.2 1 1 ((w6.2.1 1 1) + (1 : Int32))))) (by rfl) ?_
          refine aCmp_ne hC hT (tgt := 96) rfl (by decide) (fun hc15 => ?_) (fun hc15 => ?_)
          · have hf := aIfF hf hc15
            refine aRun_ok hC hT 8 (cf' := (16, [(1, .int (v1 + (1 : Int32))), (2, .int w9), (0, .ref 1)], [], LAY, (aI (aI w6.2 1 1 ((w6.2.1 1 1) + (1 : Int32))) 1 8 ((w6.2.1 1 8) + (1 : Int32))))) (by rfl) ?_
            refine aLocs [2, 0] (lv' := [(0, .ref 1), (1, .int (v1 + (1 : Int32)))]) rfl ?_
            exact hrec16 (v1 + (1 : Int32)) (aI (aI w6.2 1 1 ((w6.2.1 1 1) + (1 : Int32))) 1 8 ((w6.2.1 1 8) + (1 : Int32))) hf
          · have hf := aIfT hf hc15
            refine aLocs [1] (lv' := [(0, .ref 1)]) rfl ?_
            exact X9_read_1_b84_ok hC hF (aI w6.2 1 1 ((w6.2.1 1 1) + (1 : Int32))) hf
      · have hf := aIfT hf hc11
        refine aRun_ok hC hT 1 (cf' := (69, [(2, .int w9), (0, .ref 1), (1, .int v1)], [.int ((-1) : Int32)], LAY, (aI w6.2 1 1 ((w6.2.1 1 1) + (1 : Int32))))) (by rfl) ?_
        have e9 := Option.some.inj hf; subst e9
        exact aRetI hC hT hF rfl rfl
    · have hf := aIfT hf hc8
      refine aLocs [0] (lv' := [(0, .ref 1)]) rfl ?_
      exact X9_read_1_b30_ok hC hF w6.2 hf
def X9_read_1_l16 (N : Nat) : Nat → Int32 → aSt → Option (Int32 × aSt)
  | 0 => fun _ _ => none
  | n + 1 => X9_read_1_b16 N (X9_read_1_l16 N n)
theorem X9_read_1_l16_ok {C : aC} {N : Nat} (hC : aCx C M_X9_read) {r : Int32 × aSt} (hF : aFin C (some (.int r.1)) LAY r.2 0 0) : ∀ (n : Nat) (v1 : Int32) (S : aSt), X9_read_1_l16 N n v1 S = (some r) → aX C M_X9_read 0 0 (16, [(0, .ref 1), (1, .int v1)], [], LAY, S)
  | 0, _, _,  h => nomatch (show (none : Option (Int32 × aSt)) = some _ from h)
  | n + 1, v1, S,  h => X9_read_1_b16_ok hC hF (fun v1 S h => X9_read_1_l16_ok hC hF n v1 S h) v1 S h
def X9_read_1 (N : Nat) (S : aSt) : Option (Int32 × aSt) := (Option.bind (X9_split_1 N S) (fun w1 => (X9_read_1_l16 N N (0 : Int32) (aI (aI w1 1 8 (0 : Int32)) 1 1 (0 : Int32)))))
set_option maxHeartbeats 4000000 in
set_option maxRecDepth 100000 in
theorem J_X9_read_1 (l : Launch) (g : aWg) (N : Nat) (S : aSt) {r : Int32 × aSt} (hf : X9_read_1 N S = (some r)) : aJ l g yX9_read M_X9_read [.ref 1] LAY S (some (.int r.1)) LAY r.2 0 0 := by
  refine aJ_of (by decide +kernel) rfl (Nat.le_of_ble_eq_true rfl) (fun h => nomatch h) ?_
  intro C hg hl hC hz hF
  subst hg; subst hl
  have hT := ok_X9_read
  unfold X9_read_1 at hf
  show aX C M_X9_read 0 0 (0, [(0, .ref 1)], [], LAY, S)
  refine aRun_ok hC hT 1 (cf' := (1, [(0, .ref 1)], [.ref 1], LAY, S)) (by rfl) ?_
  obtain ⟨w1, ew2, hf⟩ := aBnE hf
  refine aCallV (b := 1) (As := []) (rest := []) hC hT rfl k_X9_read_44.1 _ _ k_X9_read_44.2 (by decide) (by rfl) (by rfl) (by rfl) (Nat.le_of_ble_eq_true rfl) (by decide) (J_X9_split_1 C.2.2.1 C.1 N  S ew2) ?_
  refine aRun_ok hC hT 8 (cf' := (16, [(1, .int (0 : Int32)), (0, .ref 1)], [], LAY, (aI (aI w1 1 8 (0 : Int32)) 1 1 (0 : Int32)))) (by rfl) ?_
  refine aLocs [1, 0] (lv' := [(0, .ref 1), (1, .int (0 : Int32))]) rfl ?_
  exact X9_read_1_l16_ok hC hF N (0 : Int32) (aI (aI w1 1 8 (0 : Int32)) 1 1 (0 : Int32)) hf
def X6_at_6 (a1 : Int32) (S : aSt) : Int32 := (if a1 < (0 : Int32) then (0 : Int32) else (if (10 : Int32) ≤ a1 then (0 : Int32) else ((S.2.2 6) a1.toNatClampNeg)))
set_option maxHeartbeats 4000000 in
set_option maxRecDepth 100000 in
theorem J_X6_at_6 (l : Launch) (g : aWg) (a1 : Int32) (S : aSt) {r : Int32} (hf : X6_at_6 a1 S = r) : aJ l g yX6_at M_X6_at [.ref 6, .int a1] LAY S (some (.int r)) LAY S 0 0 := by
  refine aJ_of (by decide +kernel) rfl (Nat.le_of_ble_eq_true rfl) (fun h => nomatch h) ?_
  intro C hg hl hC hz hF
  subst hg; subst hl
  have hT := ok_X6_at
  unfold X6_at_6 at hf
  show aX C M_X6_at 0 0 (0, [(0, .ref 6), (1, .int a1)], [], LAY, S)
  refine aRun_ok hC hT 1 (cf' := (1, [(0, .ref 6), (1, .int a1)], [.int a1], LAY, S)) (by rfl) ?_
  refine aIf_lt hC hT (tgt := 16) rfl (by decide) (fun hc1 => ?_) (fun hc1 => ?_)
  · have hf := aIfT hf hc1
    refine aRun_ok hC hT 1 (cf' := (17, [(0, .ref 6), (1, .int a1)], [.int (0 : Int32)], LAY, S)) (by rfl) ?_
    subst hf
    exact aRetI hC hT hF rfl rfl
  · have hf := aIfF hf hc1
    refine aRun_ok hC hT 3 (cf' := (7, [(0, .ref 6), (1, .int a1)], [.int (10 : Int32), .int a1], LAY, S)) (by rfl) ?_
    refine aCmp_ge hC hT (tgt := 16) rfl (by decide) (fun hc2 => ?_) (fun hc2 => ?_)
    · have hf := aIfT hf hc2
      refine aRun_ok hC hT 1 (cf' := (17, [(0, .ref 6), (1, .int a1)], [.int (0 : Int32)], LAY, S)) (by rfl) ?_
      subst hf
      exact aRetI hC hT hF rfl rfl
    · have hf := aIfF hf hc2
      refine aRun_ok hC hT 2 (cf' := (12, [(0, .ref 6), (1, .int a1)], [.int a1, .ref 6], LAY, S)) (by rfl) ?_
      refine aIald hC hT rfl (by decide) (by rfl) (aIx_of hc1 hc2 (by decide)) ?_
      refine aRun_ok hC hT 1 (cf' := (17, [(0, .ref 6), (1, .int a1)], [.int ((S.2.2 6) a1.toNatClampNeg)], LAY, S)) (by rfl) ?_
      subst hf
      exact aRetI hC hT hF rfl rfl
def X9_word_1 (a1 : Int32) (S : aSt) : Int32 := (aLet (X6_at_6 a1 S) (fun w1 => w1))
set_option maxHeartbeats 4000000 in
set_option maxRecDepth 100000 in
theorem J_X9_word_1 (l : Launch) (g : aWg) (a1 : Int32) (S : aSt) {r : Int32} (hf : X9_word_1 a1 S = r) : aJ l g yX9_word M_X9_word [.ref 1, .int a1] LAY S (some (.int r)) LAY S 0 0 := by
  refine aJ_of (by decide +kernel) rfl (Nat.le_of_ble_eq_true rfl) (fun h => nomatch h) ?_
  intro C hg hl hC hz hF
  subst hg; subst hl
  have hT := ok_X9_word
  unfold X9_word_1 at hf
  show aX C M_X9_word 0 0 (0, [(0, .ref 1), (1, .int a1)], [], LAY, S)
  refine aRun_ok hC hT 3 (cf' := (5, [(0, .ref 1), (1, .int a1)], [.int a1, .ref 6], LAY, S)) (by rfl) ?_
  obtain ⟨w1, ew2, hf⟩ := aLetE hf
  refine aCallS (As := [.ref 6, .int a1]) (rest := []) hC hT rfl k_X9_word_40.1 _ k_X9_word_40.2 (by rfl) (Nat.le_of_ble_eq_true rfl) (by decide) (J_X6_at_6 C.2.2.1 C.1 a1 S ew2) ?_
  subst hf
  exact aRetI hC hT hF rfl rfl
