def X5_find_28_b55 (N : Nat) (rec17 : Int32 → Int32 → aSt → Option (aSt)) (v1 : Int32) (v2 : Int32) (S : aSt) : Option (aSt) := (rec17 v1 (v2 + (1 : Int32)) S)
set_option maxHeartbeats 4000000 in
set_option maxRecDepth 100000 in
theorem X5_find_28_b55_ok {C : aC} {N : Nat} {rec17 : Int32 → Int32 → aSt → Option (aSt)} (hC : aCx C M_X5_find) {r : aSt} (hF : aFin C none LAY r 0 0) (hrec17 : ∀ (v1 : Int32) (v2 : Int32) (S : aSt), rec17 v1 v2 S = (some r) → aX C M_X5_find 0 0 (17, [(0, .ref 28), (1, .int v1), (2, .int v2)], [], LAY, S)) (v1 : Int32) (v2 : Int32) (S : aSt) (hf : X5_find_28_b55 N rec17 v1 v2 S = (some r)) : aX C M_X5_find 0 0 (55, [(0, .ref 28), (1, .int v1), (2, .int v2)], [], LAY, S) := by
  have hT := ok_X5_find
  unfold X5_find_28_b55 at hf
  refine aRun_ok hC hT 2 (cf' := (17, [(2, .int (v2 + (1 : Int32))), (0, .ref 28), (1, .int v1)], [], LAY, S)) (by rfl) ?_
  refine aLocs [1, 2, 0] (lv' := [(0, .ref 28), (1, .int v1), (2, .int (v2 + (1 : Int32)))]) rfl ?_
  exact hrec17 v1 (v2 + (1 : Int32)) S hf
def X5_find_28_b17 (N : Nat) (rec17 : Int32 → Int32 → aSt → Option (aSt)) (v1 : Int32) (v2 : Int32) (S : aSt) : Option (aSt) := (if (S.1 14 0) ≤ v2 then some (S) else (aLet (X8_kind_14 v2 S) (fun w2 => (if w2 = (5 : Int32) then (X5_find_28_b55 N rec17 v1 v2 S) else (aLet (X8_change_14 v2 S) (fun w5 => (Option.bind (X5_findWith_28 N v2 (v1 - w5) S) (fun w7 => (X5_find_28_b55 N rec17 v1 v2 w7)))))))))
set_option maxHeartbeats 4000000 in
set_option maxRecDepth 100000 in
theorem X5_find_28_b17_ok {C : aC} {N : Nat} {rec17 : Int32 → Int32 → aSt → Option (aSt)} (hC : aCx C M_X5_find) {r : aSt} (hF : aFin C none LAY r 0 0) (hrec17 : ∀ (v1 : Int32) (v2 : Int32) (S : aSt), rec17 v1 v2 S = (some r) → aX C M_X5_find 0 0 (17, [(0, .ref 28), (1, .int v1), (2, .int v2)], [], LAY, S)) (v1 : Int32) (v2 : Int32) (S : aSt) (hf : X5_find_28_b17 N rec17 v1 v2 S = (some r)) : aX C M_X5_find 0 0 (17, [(0, .ref 28), (1, .int v1), (2, .int v2)], [], LAY, S) := by
  have hT := ok_X5_find
  unfold X5_find_28_b17 at hf
  refine aRun_ok hC hT 4 (cf' := (25, [(0, .ref 28), (1, .int v1), (2, .int v2)], [.int (S.1 14 0), .int v2], LAY, S)) (by rfl) ?_
  refine aCmp_ge hC hT (tgt := 61) rfl (by decide) (fun hc1 => ?_) (fun hc1 => ?_)
  · have hf := aIfT hf hc1
    have e9 := Option.some.inj hf; subst e9
    exact aRetV hC hT hF rfl rfl
  · have hf := aIfF hf hc1
    refine aRun_ok hC hT 3 (cf' := (33, [(0, .ref 28), (1, .int v1), (2, .int v2)], [.int v2, .ref 14], LAY, S)) (by rfl) ?_
    obtain ⟨w2, ew3, hf⟩ := aLetE hf
    refine aCallV (b := 14) (As := [.int v2]) (rest := []) hC hT rfl k_X5_find_31.1 _ _ k_X5_find_31.2 (by decide) (by rfl) (by rfl) (by rfl) (Nat.le_of_ble_eq_true rfl) (by decide) (J_X8_kind_14 C.2.2.1 C.1 v2 S ew3) ?_
    refine aRun_ok hC hT 1 (cf' := (37, [(0, .ref 28), (1, .int v1), (2, .int v2)], [.int (5 : Int32), .int w2], LAY, S)) (by rfl) ?_
    refine aCmp_eq hC hT (tgt := 55) rfl (by decide) (fun hc4 => ?_) (fun hc4 => ?_)
    · have hf := aIfT hf hc4
      exact X5_find_28_b55_ok hC hF hrec17 v1 v2 S hf
    · have hf := aIfF hf hc4
      refine aRun_ok hC hT 6 (cf' := (48, [(0, .ref 28), (1, .int v1), (2, .int v2)], [.int v2, .ref 14, .int v1, .int v2, .ref 28], LAY, S)) (by rfl) ?_
      obtain ⟨w5, ew6, hf⟩ := aLetE hf
      refine aCallV (b := 14) (As := [.int v2]) (rest := [.int v1, .int v2, .ref 28]) hC hT rfl k_X5_find_35.1 _ _ k_X5_find_35.2 (by decide) (by rfl) (by rfl) (by rfl) (Nat.le_of_ble_eq_true rfl) (by decide) (J_X8_change_14 C.2.2.1 C.1 v2 S ew6) ?_
      refine aRun_ok hC hT 1 (cf' := (52, [(0, .ref 28), (1, .int v1), (2, .int v2)], [.int (v1 - w5), .int v2, .ref 28], LAY, S)) (by rfl) ?_
      obtain ⟨w7, ew8, hf⟩ := aBnE hf
      refine aCallV (b := 28) (As := [.int v2, .int (v1 - w5)]) (rest := []) hC hT rfl k_X5_find_38.1 _ _ k_X5_find_38.2 (by decide) (by rfl) (by rfl) (by rfl) (Nat.le_of_ble_eq_true rfl) (by decide) (J_X5_findWith_28 C.2.2.1 C.1 N v2 (v1 - w5) S ew8) ?_
      exact X5_find_28_b55_ok hC hF hrec17 v1 v2 w7 hf
def X5_find_28_l17 (N : Nat) : Nat → Int32 → Int32 → aSt → Option (aSt)
  | 0 => fun _ _ _ => none
  | n + 1 => X5_find_28_b17 N (X5_find_28_l17 N n)
theorem X5_find_28_l17_ok {C : aC} {N : Nat} (hC : aCx C M_X5_find) {r : aSt} (hF : aFin C none LAY r 0 0) : ∀ (n : Nat) (v1 : Int32) (v2 : Int32) (S : aSt), X5_find_28_l17 N n v1 v2 S = (some r) → aX C M_X5_find 0 0 (17, [(0, .ref 28), (1, .int v1), (2, .int v2)], [], LAY, S)
  | 0, _, _, _,  h => nomatch (show (none : Option (aSt)) = some _ from h)
  | n + 1, v1, v2, S,  h => X5_find_28_b17_ok hC hF (fun v1 v2 S h => X5_find_28_l17_ok hC hF n v1 v2 S h) v1 v2 S h
def X5_find_28 (N : Nat) (a1 : Int32) (S : aSt) : Option (aSt) := (X5_find_28_l17 N N a1 (0 : Int32) (aL (aL (aL S 28 0 (0 : Int64)) 28 1 (0 : Int64)) 28 4 (0 : Int64)))
set_option maxHeartbeats 4000000 in
set_option maxRecDepth 100000 in
theorem J_X5_find_28 (l : Launch) (g : aWg) (N : Nat) (a1 : Int32) (S : aSt) {r : aSt} (hf : X5_find_28 N a1 S = (some r)) : aJ l g yX5_find M_X5_find [.ref 28, .int a1] LAY S none LAY r 0 0 := by
  refine aJ_of (by decide +kernel) rfl (Nat.le_of_ble_eq_true rfl) (fun h => nomatch h) ?_
  intro C hg hl hC hz hF
  subst hg; subst hl
  have hT := ok_X5_find
  unfold X5_find_28 at hf
  show aX C M_X5_find 0 0 (0, [(0, .ref 28), (1, .int a1)], [], LAY, S)
  refine aRun_ok hC hT 11 (cf' := (17, [(2, .int (0 : Int32)), (0, .ref 28), (1, .int a1)], [], LAY, (aL (aL (aL S 28 0 (0 : Int64)) 28 1 (0 : Int64)) 28 4 (0 : Int64)))) (by rfl) ?_
  refine aLocs [1, 2, 0] (lv' := [(0, .ref 28), (1, .int a1), (2, .int (0 : Int32))]) rfl ?_
  exact X5_find_28_l17_ok hC hF N a1 (0 : Int32) (aL (aL (aL S 28 0 (0 : Int64)) 28 1 (0 : Int64)) 28 4 (0 : Int64)) hf
def X5_take_29 (a1 : Int32) (a2 : Int32) (S : aSt) : aSt := (aLet (X8_weight_14 a1 S) (fun w1 => (aLet (X8_weight_14 a2 S) (fun w3 => (if (lg_cmp ((w1.toInt64) * (w3.toInt64)) (S.2.1 29 4)) ≤ (0 : Int32) then (aL (aL S 29 0 ((S.2.1 29 0) + (1 : Int64))) 29 1 ((S.2.1 29 1) + ((w1.toInt64) * (w3.toInt64)))) else (aI (aI (aL (aL (aL S 29 0 ((S.2.1 29 0) + (1 : Int64))) 29 1 ((S.2.1 29 1) + ((w1.toInt64) * (w3.toInt64)))) 29 4 ((w1.toInt64) * (w3.toInt64))) 29 2 a1) 29 3 a2))))))
set_option maxHeartbeats 4000000 in
set_option maxRecDepth 100000 in
theorem J_X5_take_29 (l : Launch) (g : aWg) (a1 : Int32) (a2 : Int32) (S : aSt) {r : aSt} (hf : X5_take_29 a1 a2 S = r) : aJ l g yX5_take M_X5_take [.ref 29, .int a1, .int a2] LAY S none LAY r 0 0 := by
  refine aJ_of (by decide +kernel) rfl (Nat.le_of_ble_eq_true rfl) (fun h => nomatch h) ?_
  intro C hg hl hC hz hF
  subst hg; subst hl
  have hT := ok_X5_take
  unfold X5_take_29 at hf
  show aX C M_X5_take 0 0 (0, [(0, .ref 29), (1, .int a1), (2, .int a2)], [], LAY, S)
  refine aRun_ok hC hT 3 (cf' := (5, [(0, .ref 29), (1, .int a1), (2, .int a2)], [.int a1, .ref 14], LAY, S)) (by rfl) ?_
  obtain ⟨w1, ew2, hf⟩ := aLetE hf
  refine aCallV (b := 14) (As := [.int a1]) (rest := []) hC hT rfl k_X5_take_55.1 _ _ k_X5_take_55.2 (by decide) (by rfl) (by rfl) (by rfl) (Nat.le_of_ble_eq_true rfl) (by decide) (J_X8_weight_14 C.2.2.1 C.1 a1 S ew2) ?_
  refine aRun_ok hC hT 4 (cf' := (14, [(0, .ref 29), (1, .int a1), (2, .int a2)], [.int a2, .ref 14, .long (w1.toInt64)], LAY, S)) (by rfl) ?_
  obtain ⟨w3, ew4, hf⟩ := aLetE hf
  refine aCallV (b := 14) (As := [.int a2]) (rest := [.long (w1.toInt64)]) hC hT rfl k_X5_take_55.1 _ _ k_X5_take_55.2 (by decide) (by rfl) (by rfl) (by rfl) (Nat.le_of_ble_eq_true rfl) (by decide) (J_X8_weight_14 C.2.2.1 C.1 a2 S ew4) ?_
  refine aRun_ok hC hT 19 (cf' := (46, [(3, .long ((w1.toInt64) * (w3.toInt64))), (0, .ref 29), (1, .int a1), (2, .int a2)], [.int (lg_cmp ((w1.toInt64) * (w3.toInt64)) (S.2.1 29 4))], LAY, (aL (aL S 29 0 ((S.2.1 29 0) + (1 : Int64))) 29 1 ((S.2.1 29 1) + ((w1.toInt64) * (w3.toInt64)))))) (by rfl) ?_
  refine aIf_le hC hT (tgt := 64) rfl (by decide) (fun hc5 => ?_) (fun hc5 => ?_)
  · have hf := aIfT hf hc5
    subst hf
    exact aRetV hC hT hF rfl rfl
  · have hf := aIfF hf hc5
    refine aRun_ok hC hT 9 (cf' := (64, [(3, .long ((w1.toInt64) * (w3.toInt64))), (0, .ref 29), (1, .int a1), (2, .int a2)], [], LAY, (aI (aI (aL (aL (aL S 29 0 ((S.2.1 29 0) + (1 : Int64))) 29 1 ((S.2.1 29 1) + ((w1.toInt64) * (w3.toInt64)))) 29 4 ((w1.toInt64) * (w3.toInt64))) 29 2 a1) 29 3 a2))) (by rfl) ?_
    subst hf
    exact aRetV hC hT hF rfl rfl
def X5_findWith_29_b72 (N : Nat) (rec12 : Int32 → Int32 → Int32 → Int32 → aSt → Option (aSt)) (v1 : Int32) (v2 : Int32) (v3 : Int32) (v4 : Int32) (S : aSt) : Option (aSt) := (aLet (X8_nextInChain_14 v3 S) (fun w6 => (rec12 v1 v2 w6 (v4 + (1 : Int32)) S)))
set_option maxHeartbeats 4000000 in
set_option maxRecDepth 100000 in
theorem X5_findWith_29_b72_ok {C : aC} {N : Nat} {rec12 : Int32 → Int32 → Int32 → Int32 → aSt → Option (aSt)} (hC : aCx C M_X5_findWith) {r : aSt} (hF : aFin C none LAY r 0 0) (hrec12 : ∀ (v1 : Int32) (v2 : Int32) (v3 : Int32) (v4 : Int32) (S : aSt), rec12 v1 v2 v3 v4 S = (some r) → aX C M_X5_findWith 0 0 (12, [(0, .ref 29), (1, .int v1), (2, .int v2), (3, .int v3), (4, .int v4)], [], LAY, S)) (v1 : Int32) (v2 : Int32) (v3 : Int32) (v4 : Int32) (S : aSt) (hf : X5_findWith_29_b72 N rec12 v1 v2 v3 v4 S = (some r)) : aX C M_X5_findWith 0 0 (72, [(0, .ref 29), (1, .int v1), (2, .int v2), (3, .int v3), (4, .int v4)], [], LAY, S) := by
  have hT := ok_X5_findWith
  unfold X5_findWith_29_b72 at hf
  refine aRun_ok hC hT 3 (cf' := (77, [(0, .ref 29), (1, .int v1), (2, .int v2), (3, .int v3), (4, .int v4)], [.int v3, .ref 14], LAY, S)) (by rfl) ?_
  obtain ⟨w6, ew7, hf⟩ := aLetE hf
  refine aCallV (b := 14) (As := [.int v3]) (rest := []) hC hT rfl k_X5_findWith_52.1 _ _ k_X5_findWith_52.2 (by decide) (by rfl) (by rfl) (by rfl) (Nat.le_of_ble_eq_true rfl) (by decide) (J_X8_nextInChain_14 C.2.2.1 C.1 v3 S ew7) ?_
  refine aRun_ok hC hT 3 (cf' := (12, [(4, .int (v4 + (1 : Int32))), (3, .int w6), (0, .ref 29), (1, .int v1), (2, .int v2)], [], LAY, S)) (by rfl) ?_
  refine aLocs [2, 3, 4, 1, 0] (lv' := [(0, .ref 29), (1, .int v1), (2, .int v2), (3, .int w6), (4, .int (v4 + (1 : Int32)))]) rfl ?_
  exact hrec12 v1 v2 w6 (v4 + (1 : Int32)) S hf
def X5_findWith_29_b12 (N : Nat) (rec12 : Int32 → Int32 → Int32 → Int32 → aSt → Option (aSt)) (v1 : Int32) (v2 : Int32) (v3 : Int32) (v4 : Int32) (S : aSt) : Option (aSt) := (if v3 = ((-1) : Int32) then some (S) else (if (1921 : Int32) ≤ v4 then some (S) else (if v3 ≤ v1 then (X5_findWith_29_b72 N rec12 v1 v2 v3 v4 S) else (aLet (X8_change_14 v3 S) (fun w8 => (if w8 = v2 then (aLet (X8_kind_14 v3 S) (fun w11 => (if w11 = (5 : Int32) then (X5_findWith_29_b72 N rec12 v1 v2 v3 v4 S) else (aLet (X8_standApart_14 v1 v3 S) (fun w14 => (if w14 = (0 : Int32) then (X5_findWith_29_b72 N rec12 v1 v2 v3 v4 S) else (aLet (X5_take_29 v1 v3 S) (fun w17 => (X5_findWith_29_b72 N rec12 v1 v2 v3 v4 w17))))))))) else (X5_findWith_29_b72 N rec12 v1 v2 v3 v4 S)))))))
set_option maxHeartbeats 4000000 in
set_option maxRecDepth 100000 in
theorem X5_findWith_29_b12_ok {C : aC} {N : Nat} {rec12 : Int32 → Int32 → Int32 → Int32 → aSt → Option (aSt)} (hC : aCx C M_X5_findWith) {r : aSt} (hF : aFin C none LAY r 0 0) (hrec12 : ∀ (v1 : Int32) (v2 : Int32) (v3 : Int32) (v4 : Int32) (S : aSt), rec12 v1 v2 v3 v4 S = (some r) → aX C M_X5_findWith 0 0 (12, [(0, .ref 29), (1, .int v1), (2, .int v2), (3, .int v3), (4, .int v4)], [], LAY, S)) (v1 : Int32) (v2 : Int32) (v3 : Int32) (v4 : Int32) (S : aSt) (hf : X5_findWith_29_b12 N rec12 v1 v2 v3 v4 S = (some r)) : aX C M_X5_findWith 0 0 (12, [(0, .ref 29), (1, .int v1), (2, .int v2), (3, .int v3), (4, .int v4)], [], LAY, S) := by
  have hT := ok_X5_findWith
  unfold X5_findWith_29_b12 at hf
  refine aRun_ok hC hT 2 (cf' := (14, [(0, .ref 29), (1, .int v1), (2, .int v2), (3, .int v3), (4, .int v4)], [.int ((-1) : Int32), .int v3], LAY, S)) (by rfl) ?_
  refine aCmp_eq hC hT (tgt := 87) rfl (by decide) (fun hc3 => ?_) (fun hc3 => ?_)
  · have hf := aIfT hf hc3
    have e9 := Option.some.inj hf; subst e9
    exact aRetV hC hT hF rfl rfl
  · have hf := aIfF hf hc3
    refine aRun_ok hC hT 2 (cf' := (22, [(0, .ref 29), (1, .int v1), (2, .int v2), (3, .int v3), (4, .int v4)], [.int (1921 : Int32), .int v4], LAY, S)) (by rfl) ?_
    refine aCmp_ge hC hT (tgt := 87) rfl (by decide) (fun hc4 => ?_) (fun hc4 => ?_)
    · have hf := aIfT hf hc4
      have e9 := Option.some.inj hf; subst e9
      exact aRetV hC hT hF rfl rfl
    · have hf := aIfF hf hc4
      refine aRun_ok hC hT 2 (cf' := (27, [(0, .ref 29), (1, .int v1), (2, .int v2), (3, .int v3), (4, .int v4)], [.int v1, .int v3], LAY, S)) (by rfl) ?_
      refine aCmp_le hC hT (tgt := 72) rfl (by decide) (fun hc5 => ?_) (fun hc5 => ?_)
      · have hf := aIfT hf hc5
        exact X5_findWith_29_b72_ok hC hF hrec12 v1 v2 v3 v4 S hf
      · have hf := aIfF hf hc5
        refine aRun_ok hC hT 3 (cf' := (35, [(0, .ref 29), (1, .int v1), (2, .int v2), (3, .int v3), (4, .int v4)], [.int v3, .ref 14], LAY, S)) (by rfl) ?_
        obtain ⟨w8, ew9, hf⟩ := aLetE hf
        refine aCallV (b := 14) (As := [.int v3]) (rest := []) hC hT rfl k_X5_findWith_35.1 _ _ k_X5_findWith_35.2 (by decide) (by rfl) (by rfl) (by rfl) (Nat.le_of_ble_eq_true rfl) (by decide) (J_X8_change_14 C.2.2.1 C.1 v3 S ew9) ?_
        refine aRun_ok hC hT 1 (cf' := (39, [(0, .ref 29), (1, .int v1), (2, .int v2), (3, .int v3), (4, .int v4)], [.int v2, .int w8], LAY, S)) (by rfl) ?_
        refine aCmp_ne hC hT (tgt := 72) rfl (by decide) (fun hc10 => ?_) (fun hc10 => ?_)
        · have hf := aIfF hf hc10
          exact X5_findWith_29_b72_ok hC hF hrec12 v1 v2 v3 v4 S hf
        · have hf := aIfT hf hc10
          refine aRun_ok hC hT 3 (cf' := (47, [(0, .ref 29), (1, .int v1), (2, .int v2), (3, .int v3), (4, .int v4)], [.int v3, .ref 14], LAY, S)) (by rfl) ?_
          obtain ⟨w11, ew12, hf⟩ := aLetE hf
          refine aCallV (b := 14) (As := [.int v3]) (rest := []) hC hT rfl k_X5_findWith_31.1 _ _ k_X5_findWith_31.2 (by decide) (by rfl) (by rfl) (by rfl) (Nat.le_of_ble_eq_true rfl) (by decide) (J_X8_kind_14 C.2.2.1 C.1 v3 S ew12) ?_
          refine aRun_ok hC hT 1 (cf' := (51, [(0, .ref 29), (1, .int v1), (2, .int v2), (3, .int v3), (4, .int v4)], [.int (5 : Int32), .int w11], LAY, S)) (by rfl) ?_
          refine aCmp_eq hC hT (tgt := 72) rfl (by decide) (fun hc13 => ?_) (fun hc13 => ?_)
          · have hf := aIfT hf hc13
            exact X5_findWith_29_b72_ok hC hF hrec12 v1 v2 v3 v4 S hf
          · have hf := aIfF hf hc13
            refine aRun_ok hC hT 4 (cf' := (60, [(0, .ref 29), (1, .int v1), (2, .int v2), (3, .int v3), (4, .int v4)], [.int v3, .int v1, .ref 14], LAY, S)) (by rfl) ?_
            obtain ⟨w14, ew15, hf⟩ := aLetE hf
            refine aCallV (b := 14) (As := [.int v1, .int v3]) (rest := []) hC hT rfl k_X5_findWith_45.1 _ _ k_X5_findWith_45.2 (by decide) (by rfl) (by rfl) (by rfl) (Nat.le_of_ble_eq_true rfl) (by decide) (J_X8_standApart_14 C.2.2.1 C.1 v1 v3 S ew15) ?_
            refine aIf_eq hC hT (tgt := 72) rfl (by decide) (fun hc16 => ?_) (fun hc16 => ?_)
            · have hf := aIfT hf hc16
              exact X5_findWith_29_b72_ok hC hF hrec12 v1 v2 v3 v4 S hf
            · have hf := aIfF hf hc16
              refine aRun_ok hC hT 3 (cf' := (69, [(0, .ref 29), (1, .int v1), (2, .int v2), (3, .int v3), (4, .int v4)], [.int v3, .int v1, .ref 29], LAY, S)) (by rfl) ?_
              obtain ⟨w17, ew18, hf⟩ := aLetE hf
              refine aCallV (b := 29) (As := [.int v1, .int v3]) (rest := []) hC hT rfl k_X5_findWith_49.1 _ _ k_X5_findWith_49.2 (by decide) (by rfl) (by rfl) (by rfl) (Nat.le_of_ble_eq_true rfl) (by decide) (J_X5_take_29 C.2.2.1 C.1 v1 v3 S ew18) ?_
              exact X5_findWith_29_b72_ok hC hF hrec12 v1 v2 v3 v4 w17 hf
def X5_findWith_29_l12 (N : Nat) : Nat → Int32 → Int32 → Int32 → Int32 → aSt → Option (aSt)
  | 0 => fun _ _ _ _ _ => none
  | n + 1 => X5_findWith_29_b12 N (X5_findWith_29_l12 N n)
theorem X5_findWith_29_l12_ok {C : aC} {N : Nat} (hC : aCx C M_X5_findWith) {r : aSt} (hF : aFin C none LAY r 0 0) : ∀ (n : Nat) (v1 : Int32) (v2 : Int32) (v3 : Int32) (v4 : Int32) (S : aSt), X5_findWith_29_l12 N n v1 v2 v3 v4 S = (some r) → aX C M_X5_findWith 0 0 (12, [(0, .ref 29), (1, .int v1), (2, .int v2), (3, .int v3), (4, .int v4)], [], LAY, S)
  | 0, _, _, _, _, _,  h => nomatch (show (none : Option (aSt)) = some _ from h)
  | n + 1, v1, v2, v3, v4, S,  h => X5_findWith_29_b12_ok hC hF (fun v1 v2 v3 v4 S h => X5_findWith_29_l12_ok hC hF n v1 v2 v3 v4 S h) v1 v2 v3 v4 S h
def X5_findWith_29 (N : Nat) (a1 : Int32) (a2 : Int32) (S : aSt) : Option (aSt) := (Option.bind (X8_chainOf_14 N a2 S) (fun w1 => (X5_findWith_29_l12 N N a1 a2 w1 (0 : Int32) S)))
set_option maxHeartbeats 4000000 in
set_option maxRecDepth 100000 in
theorem J_X5_findWith_29 (l : Launch) (g : aWg) (N : Nat) (a1 : Int32) (a2 : Int32) (S : aSt) {r : aSt} (hf : X5_findWith_29 N a1 a2 S = (some r)) : aJ l g yX5_findWith M_X5_findWith [.ref 29, .int a1, .int a2] LAY S none LAY r 0 0 := by
  refine aJ_of (by decide +kernel) rfl (Nat.le_of_ble_eq_true rfl) (fun h => nomatch h) ?_
  intro C hg hl hC hz hF
  subst hg; subst hl
  have hT := ok_X5_findWith
  unfold X5_findWith_29 at hf
  show aX C M_X5_findWith 0 0 (0, [(0, .ref 29), (1, .int a1), (2, .int a2)], [], LAY, S)
  refine aRun_ok hC hT 3 (cf' := (5, [(0, .ref 29), (1, .int a1), (2, .int a2)], [.int a2, .ref 14], LAY, S)) (by rfl) ?_
  obtain ⟨w1, ew2, hf⟩ := aBnE hf
  refine aCallV (b := 14) (As := [.int a2]) (rest := []) hC hT rfl k_X5_findWith_42.1 _ _ k_X5_findWith_42.2 (by decide) (by rfl) (by rfl) (by rfl) (Nat.le_of_ble_eq_true rfl) (by decide) (J_X8_chainOf_14 C.2.2.1 C.1 N a2 S ew2) ?_
  refine aRun_ok hC hT 3 (cf' := (12, [(4, .int (0 : Int32)), (3, .int w1), (0, .ref 29), (1, .int a1), (2, .int a2)], [], LAY, S)) (by rfl) ?_
  refine aLocs [2, 3, 4, 1, 0] (lv' := [(0, .ref 29), (1, .int a1), (2, .int a2), (3, .int w1), (4, .int (0 : Int32))]) rfl ?_
  exact X5_findWith_29_l12_ok hC hF N a1 a2 w1 (0 : Int32) S hf
def X5_find_29_b55 (N : Nat) (rec17 : Int32 → Int32 → aSt → Option (aSt)) (v1 : Int32) (v2 : Int32) (S : aSt) : Option (aSt) := (rec17 v1 (v2 + (1 : Int32)) S)
set_option maxHeartbeats 4000000 in
set_option maxRecDepth 100000 in
theorem X5_find_29_b55_ok {C : aC} {N : Nat} {rec17 : Int32 → Int32 → aSt → Option (aSt)} (hC : aCx C M_X5_find) {r : aSt} (hF : aFin C none LAY r 0 0) (hrec17 : ∀ (v1 : Int32) (v2 : Int32) (S : aSt), rec17 v1 v2 S = (some r) → aX C M_X5_find 0 0 (17, [(0, .ref 29), (1, .int v1), (2, .int v2)], [], LAY, S)) (v1 : Int32) (v2 : Int32) (S : aSt) (hf : X5_find_29_b55 N rec17 v1 v2 S = (some r)) : aX C M_X5_find 0 0 (55, [(0, .ref 29), (1, .int v1), (2, .int v2)], [], LAY, S) := by
  have hT := ok_X5_find
  unfold X5_find_29_b55 at hf
  refine aRun_ok hC hT 2 (cf' := (17, [(2, .int (v2 + (1 : Int32))), (0, .ref 29), (1, .int v1)], [], LAY, S)) (by rfl) ?_
  refine aLocs [1, 2, 0] (lv' := [(0, .ref 29), (1, .int v1), (2, .int (v2 + (1 : Int32)))]) rfl ?_
  exact hrec17 v1 (v2 + (1 : Int32)) S hf
def X5_find_29_b17 (N : Nat) (rec17 : Int32 → Int32 → aSt → Option (aSt)) (v1 : Int32) (v2 : Int32) (S : aSt) : Option (aSt) := (if (S.1 14 0) ≤ v2 then some (S) else (aLet (X8_kind_14 v2 S) (fun w2 => (if w2 = (5 : Int32) then (X5_find_29_b55 N rec17 v1 v2 S) else (aLet (X8_change_14 v2 S) (fun w5 => (Option.bind (X5_findWith_29 N v2 (v1 - w5) S) (fun w7 => (X5_find_29_b55 N rec17 v1 v2 w7)))))))))
set_option maxHeartbeats 4000000 in
set_option maxRecDepth 100000 in
theorem X5_find_29_b17_ok {C : aC} {N : Nat} {rec17 : Int32 → Int32 → aSt → Option (aSt)} (hC : aCx C M_X5_find) {r : aSt} (hF : aFin C none LAY r 0 0) (hrec17 : ∀ (v1 : Int32) (v2 : Int32) (S : aSt), rec17 v1 v2 S = (some r) → aX C M_X5_find 0 0 (17, [(0, .ref 29), (1, .int v1), (2, .int v2)], [], LAY, S)) (v1 : Int32) (v2 : Int32) (S : aSt) (hf : X5_find_29_b17 N rec17 v1 v2 S = (some r)) : aX C M_X5_find 0 0 (17, [(0, .ref 29), (1, .int v1), (2, .int v2)], [], LAY, S) := by
  have hT := ok_X5_find
  unfold X5_find_29_b17 at hf
  refine aRun_ok hC hT 4 (cf' := (25, [(0, .ref 29), (1, .int v1), (2, .int v2)], [.int (S.1 14 0), .int v2], LAY, S)) (by rfl) ?_
  refine aCmp_ge hC hT (tgt := 61) rfl (by decide) (fun hc1 => ?_) (fun hc1 => ?_)
  · have hf := aIfT hf hc1
    have e9 := Option.some.inj hf; subst e9
    exact aRetV hC hT hF rfl rfl
  · have hf := aIfF hf hc1
    refine aRun_ok hC hT 3 (cf' := (33, [(0, .ref 29), (1, .int v1), (2, .int v2)], [.int v2, .ref 14], LAY, S)) (by rfl) ?_
    obtain ⟨w2, ew3, hf⟩ := aLetE hf
    refine aCallV (b := 14) (As := [.int v2]) (rest := []) hC hT rfl k_X5_find_31.1 _ _ k_X5_find_31.2 (by decide) (by rfl) (by rfl) (by rfl) (Nat.le_of_ble_eq_true rfl) (by decide) (J_X8_kind_14 C.2.2.1 C.1 v2 S ew3) ?_
    refine aRun_ok hC hT 1 (cf' := (37, [(0, .ref 29), (1, .int v1), (2, .int v2)], [.int (5 : Int32), .int w2], LAY, S)) (by rfl) ?_
    refine aCmp_eq hC hT (tgt := 55) rfl (by decide) (fun hc4 => ?_) (fun hc4 => ?_)
    · have hf := aIfT hf hc4
      exact X5_find_29_b55_ok hC hF hrec17 v1 v2 S hf
    · have hf := aIfF hf hc4
      refine aRun_ok hC hT 6 (cf' := (48, [(0, .ref 29), (1, .int v1), (2, .int v2)], [.int v2, .ref 14, .int v1, .int v2, .ref 29], LAY, S)) (by rfl) ?_
      obtain ⟨w5, ew6, hf⟩ := aLetE hf
      refine aCallV (b := 14) (As := [.int v2]) (rest := [.int v1, .int v2, .ref 29]) hC hT rfl k_X5_find_35.1 _ _ k_X5_find_35.2 (by decide) (by rfl) (by rfl) (by rfl) (Nat.le_of_ble_eq_true rfl) (by decide) (J_X8_change_14 C.2.2.1 C.1 v2 S ew6) ?_
      refine aRun_ok hC hT 1 (cf' := (52, [(0, .ref 29), (1, .int v1), (2, .int v2)], [.int (v1 - w5), .int v2, .ref 29], LAY, S)) (by rfl) ?_
      obtain ⟨w7, ew8, hf⟩ := aBnE hf
      refine aCallV (b := 29) (As := [.int v2, .int (v1 - w5)]) (rest := []) hC hT rfl k_X5_find_38.1 _ _ k_X5_find_38.2 (by decide) (by rfl) (by rfl) (by rfl) (Nat.le_of_ble_eq_true rfl) (by decide) (J_X5_findWith_29 C.2.2.1 C.1 N v2 (v1 - w5) S ew8) ?_
      exact X5_find_29_b55_ok hC hF hrec17 v1 v2 w7 hf
def X5_find_29_l17 (N : Nat) : Nat → Int32 → Int32 → aSt → Option (aSt)
  | 0 => fun _ _ _ => none
  | n + 1 => X5_find_29_b17 N (X5_find_29_l17 N n)
theorem X5_find_29_l17_ok {C : aC} {N : Nat} (hC : aCx C M_X5_find) {r : aSt} (hF : aFin C none LAY r 0 0) : ∀ (n : Nat) (v1 : Int32) (v2 : Int32) (S : aSt), X5_find_29_l17 N n v1 v2 S = (some r) → aX C M_X5_find 0 0 (17, [(0, .ref 29), (1, .int v1), (2, .int v2)], [], LAY, S)
  | 0, _, _, _,  h => nomatch (show (none : Option (aSt)) = some _ from h)
  | n + 1, v1, v2, S,  h => X5_find_29_b17_ok hC hF (fun v1 v2 S h => X5_find_29_l17_ok hC hF n v1 v2 S h) v1 v2 S h
def X5_find_29 (N : Nat) (a1 : Int32) (S : aSt) : Option (aSt) := (X5_find_29_l17 N N a1 (0 : Int32) (aL (aL (aL S 29 0 (0 : Int64)) 29 1 (0 : Int64)) 29 4 (0 : Int64)))
set_option maxHeartbeats 4000000 in
set_option maxRecDepth 100000 in
theorem J_X5_find_29 (l : Launch) (g : aWg) (N : Nat) (a1 : Int32) (S : aSt) {r : aSt} (hf : X5_find_29 N a1 S = (some r)) : aJ l g yX5_find M_X5_find [.ref 29, .int a1] LAY S none LAY r 0 0 := by
  refine aJ_of (by decide +kernel) rfl (Nat.le_of_ble_eq_true rfl) (fun h => nomatch h) ?_
  intro C hg hl hC hz hF
  subst hg; subst hl
  have hT := ok_X5_find
  unfold X5_find_29 at hf
  show aX C M_X5_find 0 0 (0, [(0, .ref 29), (1, .int a1)], [], LAY, S)
  refine aRun_ok hC hT 11 (cf' := (17, [(2, .int (0 : Int32)), (0, .ref 29), (1, .int a1)], [], LAY, (aL (aL (aL S 29 0 (0 : Int64)) 29 1 (0 : Int64)) 29 4 (0 : Int64)))) (by rfl) ?_
  refine aLocs [1, 2, 0] (lv' := [(0, .ref 29), (1, .int a1), (2, .int (0 : Int32))]) rfl ?_
  exact X5_find_29_l17_ok hC hF N a1 (0 : Int32) (aL (aL (aL S 29 0 (0 : Int64)) 29 1 (0 : Int64)) 29 4 (0 : Int64)) hf
def J7_fill_53178_31_b5 (N : Nat) (rec5 : Int32 → Int32 → Int32 → aSt → Option (aSt)) (v1 : Int32) (v2 : Int32) (v3 : Int32) (S : aSt) : Option (aSt) := (if v3 ≤ v2 then some (S) else (if aIx v2 30 = true then (rec5 v1 (v2 + (1 : Int32)) v3 (aA S 31 (upd (S.2.2 31) v2.toNatClampNeg v1))) else none))
set_option maxHeartbeats 4000000 in
set_option maxRecDepth 100000 in
theorem J7_fill_53178_31_b5_ok {C : aC} {N : Nat} {rec5 : Int32 → Int32 → Int32 → aSt → Option (aSt)} (hC : aCx C M_J7_fill_53178) {r : aSt} (hF : aFin C none LAY r 0 0) (hrec5 : ∀ (v1 : Int32) (v2 : Int32) (v3 : Int32) (S : aSt), rec5 v1 v2 v3 S = (some r) → aX C M_J7_fill_53178 0 0 (5, [(0, .ref 31), (1, .int v1), (2, .int v2), (3, .int v3)], [], LAY, S)) (v1 : Int32) (v2 : Int32) (v3 : Int32) (S : aSt) (hf : J7_fill_53178_31_b5 N rec5 v1 v2 v3 S = (some r)) : aX C M_J7_fill_53178 0 0 (5, [(0, .ref 31), (1, .int v1), (2, .int v2), (3, .int v3)], [], LAY, S) := by
  have hT := ok_J7_fill_53178
  unfold J7_fill_53178_31_b5 at hf
  refine aRun_ok hC hT 2 (cf' := (7, [(0, .ref 31), (1, .int v1), (2, .int v2), (3, .int v3)], [.int v3, .int v2], LAY, S)) (by rfl) ?_
  refine aCmp_ge hC hT (tgt := 20) rfl (by decide) (fun hc1 => ?_) (fun hc1 => ?_)
  · have hf := aIfT hf hc1
    have e9 := Option.some.inj hf; subst e9
    exact aRetV hC hT hF rfl rfl
  · have hf := aIfF hf hc1
    refine aRun_ok hC hT 3 (cf' := (13, [(0, .ref 31), (1, .int v1), (2, .int v2), (3, .int v3)], [.int v1, .int v2, .ref 31], LAY, S)) (by rfl) ?_
    obtain ⟨hin2, hf⟩ := aGdE hf
    refine aIast hC hT rfl (by decide) (by rfl) hin2 ?_
    refine aRun_ok hC hT 2 (cf' := (5, [(2, .int (v2 + (1 : Int32))), (0, .ref 31), (1, .int v1), (3, .int v3)], [], LAY, (aA S 31 (upd (S.2.2 31) v2.toNatClampNeg v1)))) (by rfl) ?_
    refine aLocs [1, 2, 0, 3] (lv' := [(0, .ref 31), (1, .int v1), (2, .int (v2 + (1 : Int32))), (3, .int v3)]) rfl ?_
    exact hrec5 v1 (v2 + (1 : Int32)) v3 (aA S 31 (upd (S.2.2 31) v2.toNatClampNeg v1)) hf
def J7_fill_53178_31_l5 (N : Nat) : Nat → Int32 → Int32 → Int32 → aSt → Option (aSt)
  | 0 => fun _ _ _ _ => none
  | n + 1 => J7_fill_53178_31_b5 N (J7_fill_53178_31_l5 N n)
theorem J7_fill_53178_31_l5_ok {C : aC} {N : Nat} (hC : aCx C M_J7_fill_53178) {r : aSt} (hF : aFin C none LAY r 0 0) : ∀ (n : Nat) (v1 : Int32) (v2 : Int32) (v3 : Int32) (S : aSt), J7_fill_53178_31_l5 N n v1 v2 v3 S = (some r) → aX C M_J7_fill_53178 0 0 (5, [(0, .ref 31), (1, .int v1), (2, .int v2), (3, .int v3)], [], LAY, S)
  | 0, _, _, _, _,  h => nomatch (show (none : Option (aSt)) = some _ from h)
  | n + 1, v1, v2, v3, S,  h => J7_fill_53178_31_b5_ok hC hF (fun v1 v2 v3 S h => J7_fill_53178_31_l5_ok hC hF n v1 v2 v3 S h) v1 v2 v3 S h
def J7_fill_53178_31 (N : Nat) (a1 : Int32) (S : aSt) : Option (aSt) := (J7_fill_53178_31_l5 N N a1 (0 : Int32) (30 : Int32) S)
set_option maxHeartbeats 4000000 in
set_option maxRecDepth 100000 in
theorem J_J7_fill_53178_31 (l : Launch) (g : aWg) (N : Nat) (a1 : Int32) (S : aSt) {r : aSt} (hf : J7_fill_53178_31 N a1 S = (some r)) : aJ l g yJ7_fill_53178 M_J7_fill_53178 [.ref 31, .int a1] LAY S none LAY r 0 0 := by
  refine aJ_of (by decide +kernel) rfl (Nat.le_of_ble_eq_true rfl) (fun h => nomatch h) ?_
  intro C hg hl hC hz hF
  subst hg; subst hl
  have hT := ok_J7_fill_53178
  unfold J7_fill_53178_31 at hf
  show aX C M_J7_fill_53178 0 0 (0, [(0, .ref 31), (1, .int a1)], [], LAY, S)
  refine aRun_ok hC hT 5 (cf' := (5, [(3, .int (30 : Int32)), (2, .int (0 : Int32)), (0, .ref 31), (1, .int a1)], [], LAY, S)) (by rfl) ?_
  refine aLocs [2, 3, 1, 0] (lv' := [(0, .ref 31), (1, .int a1), (2, .int (0 : Int32)), (3, .int (30 : Int32))]) rfl ?_
  exact J7_fill_53178_31_l5_ok hC hF N a1 (0 : Int32) (30 : Int32) S hf
def X6_at_33 (a1 : Int32) (S : aSt) : Int32 := (if a1 < (0 : Int32) then (0 : Int32) else (if (30 : Int32) ≤ a1 then (0 : Int32) else ((S.2.2 33) a1.toNatClampNeg)))
set_option maxHeartbeats 4000000 in
set_option maxRecDepth 100000 in
theorem J_X6_at_33 (l : Launch) (g : aWg) (a1 : Int32) (S : aSt) {r : Int32} (hf : X6_at_33 a1 S = r) : aJ l g yX6_at M_X6_at [.ref 33, .int a1] LAY S (some (.int r)) LAY S 0 0 := by
  refine aJ_of (by decide +kernel) rfl (Nat.le_of_ble_eq_true rfl) (fun h => nomatch h) ?_
  intro C hg hl hC hz hF
  subst hg; subst hl
  have hT := ok_X6_at
  unfold X6_at_33 at hf
  show aX C M_X6_at 0 0 (0, [(0, .ref 33), (1, .int a1)], [], LAY, S)
  refine aRun_ok hC hT 1 (cf' := (1, [(0, .ref 33), (1, .int a1)], [.int a1], LAY, S)) (by rfl) ?_
  refine aIf_lt hC hT (tgt := 16) rfl (by decide) (fun hc1 => ?_) (fun hc1 => ?_)
  · have hf := aIfT hf hc1
    refine aRun_ok hC hT 1 (cf' := (17, [(0, .ref 33), (1, .int a1)], [.int (0 : Int32)], LAY, S)) (by rfl) ?_
    subst hf
    exact aRetI hC hT hF rfl rfl
  · have hf := aIfF hf hc1
    refine aRun_ok hC hT 3 (cf' := (7, [(0, .ref 33), (1, .int a1)], [.int (30 : Int32), .int a1], LAY, S)) (by rfl) ?_
    refine aCmp_ge hC hT (tgt := 16) rfl (by decide) (fun hc2 => ?_) (fun hc2 => ?_)
    · have hf := aIfT hf hc2
      refine aRun_ok hC hT 1 (cf' := (17, [(0, .ref 33), (1, .int a1)], [.int (0 : Int32)], LAY, S)) (by rfl) ?_
      subst hf
      exact aRetI hC hT hF rfl rfl
    · have hf := aIfF hf hc2
      refine aRun_ok hC hT 2 (cf' := (12, [(0, .ref 33), (1, .int a1)], [.int a1, .ref 33], LAY, S)) (by rfl) ?_
      refine aIald hC hT rfl (by decide) (by rfl) (aIx_of hc1 hc2 (by decide)) ?_
      refine aRun_ok hC hT 1 (cf' := (17, [(0, .ref 33), (1, .int a1)], [.int ((S.2.2 33) a1.toNatClampNeg)], LAY, S)) (by rfl) ?_
      subst hf
      exact aRetI hC hT hF rfl rfl
def X3_entryAt_30 (a1 : Int32) (S : aSt) : Int32 := (aLet (X6_at_33 a1 S) (fun w1 => w1))
set_option maxHeartbeats 4000000 in
set_option maxRecDepth 100000 in
theorem J_X3_entryAt_30 (l : Launch) (g : aWg) (a1 : Int32) (S : aSt) {r : Int32} (hf : X3_entryAt_30 a1 S = r) : aJ l g yX3_entryAt M_X3_entryAt [.ref 30, .int a1] LAY S (some (.int r)) LAY S 0 0 := by
  refine aJ_of (by decide +kernel) rfl (Nat.le_of_ble_eq_true rfl) (fun h => nomatch h) ?_
  intro C hg hl hC hz hF
  subst hg; subst hl
  have hT := ok_X3_entryAt
  unfold X3_entryAt_30 at hf
  show aX C M_X3_entryAt 0 0 (0, [(0, .ref 30), (1, .int a1)], [], LAY, S)
  refine aRun_ok hC hT 3 (cf' := (5, [(0, .ref 30), (1, .int a1)], [.int a1, .ref 33], LAY, S)) (by rfl) ?_
  obtain ⟨w1, ew2, hf⟩ := aLetE hf
  refine aCallS (As := [.ref 33, .int a1]) (rest := []) hC hT rfl k_X3_entryAt_33.1 _ k_X3_entryAt_33.2 (by rfl) (Nat.le_of_ble_eq_true rfl) (by decide) (J_X6_at_33 C.2.2.1 C.1 a1 S ew2) ?_
  subst hf
  exact aRetI hC hT hF rfl rfl
def X6_at_31 (a1 : Int32) (S : aSt) : Int32 := (if a1 < (0 : Int32) then (0 : Int32) else (if (30 : Int32) ≤ a1 then (0 : Int32) else ((S.2.2 31) a1.toNatClampNeg)))
set_option maxHeartbeats 4000000 in
set_option maxRecDepth 100000 in
theorem J_X6_at_31 (l : Launch) (g : aWg) (a1 : Int32) (S : aSt) {r : Int32} (hf : X6_at_31 a1 S = r) : aJ l g yX6_at M_X6_at [.ref 31, .int a1] LAY S (some (.int r)) LAY S 0 0 := by
  refine aJ_of (by decide +kernel) rfl (Nat.le_of_ble_eq_true rfl) (fun h => nomatch h) ?_
  intro C hg hl hC hz hF
  subst hg; subst hl
  have hT := ok_X6_at
  unfold X6_at_31 at hf
  show aX C M_X6_at 0 0 (0, [(0, .ref 31), (1, .int a1)], [], LAY, S)
  refine aRun_ok hC hT 1 (cf' := (1, [(0, .ref 31), (1, .int a1)], [.int a1], LAY, S)) (by rfl) ?_
  refine aIf_lt hC hT (tgt := 16) rfl (by decide) (fun hc1 => ?_) (fun hc1 => ?_)
  · have hf := aIfT hf hc1
    refine aRun_ok hC hT 1 (cf' := (17, [(0, .ref 31), (1, .int a1)], [.int (0 : Int32)], LAY, S)) (by rfl) ?_
    subst hf
    exact aRetI hC hT hF rfl rfl
  · have hf := aIfF hf hc1
    refine aRun_ok hC hT 3 (cf' := (7, [(0, .ref 31), (1, .int a1)], [.int (30 : Int32), .int a1], LAY, S)) (by rfl) ?_
    refine aCmp_ge hC hT (tgt := 16) rfl (by decide) (fun hc2 => ?_) (fun hc2 => ?_)
    · have hf := aIfT hf hc2
      refine aRun_ok hC hT 1 (cf' := (17, [(0, .ref 31), (1, .int a1)], [.int (0 : Int32)], LAY, S)) (by rfl) ?_
      subst hf
      exact aRetI hC hT hF rfl rfl
    · have hf := aIfF hf hc2
      refine aRun_ok hC hT 2 (cf' := (12, [(0, .ref 31), (1, .int a1)], [.int a1, .ref 31], LAY, S)) (by rfl) ?_
      refine aIald hC hT rfl (by decide) (by rfl) (aIx_of hc1 hc2 (by decide)) ?_
      refine aRun_ok hC hT 1 (cf' := (17, [(0, .ref 31), (1, .int a1)], [.int ((S.2.2 31) a1.toNatClampNeg)], LAY, S)) (by rfl) ?_
      subst hf
      exact aRetI hC hT hF rfl rfl
def X6_at_32 (a1 : Int32) (S : aSt) : Int32 := (if a1 < (0 : Int32) then (0 : Int32) else (if (30 : Int32) ≤ a1 then (0 : Int32) else ((S.2.2 32) a1.toNatClampNeg)))
set_option maxHeartbeats 4000000 in
set_option maxRecDepth 100000 in
theorem J_X6_at_32 (l : Launch) (g : aWg) (a1 : Int32) (S : aSt) {r : Int32} (hf : X6_at_32 a1 S = r) : aJ l g yX6_at M_X6_at [.ref 32, .int a1] LAY S (some (.int r)) LAY S 0 0 := by
  refine aJ_of (by decide +kernel) rfl (Nat.le_of_ble_eq_true rfl) (fun h => nomatch h) ?_
  intro C hg hl hC hz hF
  subst hg; subst hl
  have hT := ok_X6_at
  unfold X6_at_32 at hf
  show aX C M_X6_at 0 0 (0, [(0, .ref 32), (1, .int a1)], [], LAY, S)
  refine aRun_ok hC hT 1 (cf' := (1, [(0, .ref 32), (1, .int a1)], [.int a1], LAY, S)) (by rfl) ?_
  refine aIf_lt hC hT (tgt := 16) rfl (by decide) (fun hc1 => ?_) (fun hc1 => ?_)
  · have hf := aIfT hf hc1
    refine aRun_ok hC hT 1 (cf' := (17, [(0, .ref 32), (1, .int a1)], [.int (0 : Int32)], LAY, S)) (by rfl) ?_
    subst hf
    exact aRetI hC hT hF rfl rfl
  · have hf := aIfF hf hc1
    refine aRun_ok hC hT 3 (cf' := (7, [(0, .ref 32), (1, .int a1)], [.int (30 : Int32), .int a1], LAY, S)) (by rfl) ?_
    refine aCmp_ge hC hT (tgt := 16) rfl (by decide) (fun hc2 => ?_) (fun hc2 => ?_)
    · have hf := aIfT hf hc2
      refine aRun_ok hC hT 1 (cf' := (17, [(0, .ref 32), (1, .int a1)], [.int (0 : Int32)], LAY, S)) (by rfl) ?_
      subst hf
      exact aRetI hC hT hF rfl rfl
    · have hf := aIfF hf hc2
      refine aRun_ok hC hT 2 (cf' := (12, [(0, .ref 32), (1, .int a1)], [.int a1, .ref 32], LAY, S)) (by rfl) ?_
      refine aIald hC hT rfl (by decide) (by rfl) (aIx_of hc1 hc2 (by decide)) ?_
      refine aRun_ok hC hT 1 (cf' := (17, [(0, .ref 32), (1, .int a1)], [.int ((S.2.2 32) a1.toNatClampNeg)], LAY, S)) (by rfl) ?_
      subst hf
      exact aRetI hC hT hF rfl rfl
def X3_sumUp_30_b14 (N : Nat) (rec14 : Int64 → Int32 → aSt → Option (aSt)) (v1 : Int64) (v3 : Int32) (S : aSt) : Option (aSt) := (if (S.1 30 0) ≤ v3 then some (S) else (aLet (X3_entryAt_30 v3 S) (fun w2 => (aLet (X6_at_31 w2 S) (fun w4 => (aLet (X6_at_32 w2 S) (fun w6 => (rec14 (v1 + (w6.toInt64)) (v3 + (1 : Int32)) (aL (aL S 30 1 ((S.2.1 30 1) + ((w4.toInt64) * (v1 + (w6.toInt64))))) 30 2 ((S.2.1 30 2) + (w4.toInt64)))))))))))
set_option maxHeartbeats 4000000 in
set_option maxRecDepth 100000 in
theorem X3_sumUp_30_b14_ok {C : aC} {N : Nat} {rec14 : Int64 → Int32 → aSt → Option (aSt)} (hC : aCx C M_X3_sumUp) {r : aSt} (hF : aFin C none LAY r 0 0) (hrec14 : ∀ (v1 : Int64) (v3 : Int32) (S : aSt), rec14 v1 v3 S = (some r) → aX C M_X3_sumUp 0 0 (14, [(0, .ref 30), (1, .long v1), (3, .int v3)], [], LAY, S)) (v1 : Int64) (v3 : Int32) (S : aSt) (hf : X3_sumUp_30_b14 N rec14 v1 v3 S = (some r)) : aX C M_X3_sumUp 0 0 (14, [(0, .ref 30), (1, .long v1), (3, .int v3)], [], LAY, S) := by
  have hT := ok_X3_sumUp
  unfold X3_sumUp_30_b14 at hf
  refine aRun_ok hC hT 3 (cf' := (19, [(0, .ref 30), (1, .long v1), (3, .int v3)], [.int (S.1 30 0), .int v3], LAY, S)) (by rfl) ?_
  refine aCmp_ge hC hT (tgt := 84) rfl (by decide) (fun hc1 => ?_) (fun hc1 => ?_)
  · have hf := aIfT hf hc1
    have e9 := Option.some.inj hf; subst e9
    exact aRetV hC hT hF rfl rfl
  · have hf := aIfF hf hc1
    refine aRun_ok hC hT 2 (cf' := (24, [(0, .ref 30), (1, .long v1), (3, .int v3)], [.int v3, .ref 30], LAY, S)) (by rfl) ?_
    obtain ⟨w2, ew3, hf⟩ := aLetE hf
    refine aCallV (b := 30) (As := [.int v3]) (rest := []) hC hT rfl k_X3_sumUp_101.1 _ _ k_X3_sumUp_101.2 (by decide) (by rfl) (by rfl) (by rfl) (Nat.le_of_ble_eq_true rfl) (by decide) (J_X3_entryAt_30 C.2.2.1 C.1 v3 S ew3) ?_
    refine aRun_ok hC hT 4 (cf' := (35, [(4, .int w2), (0, .ref 30), (1, .long v1), (3, .int v3)], [.int w2, .ref 31], LAY, S)) (by rfl) ?_
    obtain ⟨w4, ew5, hf⟩ := aLetE hf
    refine aCallS (As := [.ref 31, .int w2]) (rest := []) hC hT rfl k_X3_sumUp_33.1 _ k_X3_sumUp_33.2 (by rfl) (Nat.le_of_ble_eq_true rfl) (by decide) (J_X6_at_31 C.2.2.1 C.1 w2 S ew5) ?_
    refine aRun_ok hC hT 6 (cf' := (48, [(5, .long (w4.toInt64)), (4, .int w2), (0, .ref 30), (1, .long v1), (3, .int v3)], [.int w2, .ref 32, .long v1], LAY, S)) (by rfl) ?_
    obtain ⟨w6, ew7, hf⟩ := aLetE hf
    refine aCallS (As := [.ref 32, .int w2]) (rest := [.long v1]) hC hT rfl k_X3_sumUp_33.1 _ k_X3_sumUp_33.2 (by rfl) (Nat.le_of_ble_eq_true rfl) (by decide) (J_X6_at_32 C.2.2.1 C.1 w2 S ew7) ?_
    refine aRun_ok hC hT 19 (cf' := (14, [(3, .int (v3 + (1 : Int32))), (1, .long (v1 + (w6.toInt64))), (5, .long (w4.toInt64)), (4, .int w2), (0, .ref 30)], [], LAY, (aL (aL S 30 1 ((S.2.1 30 1) + ((w4.toInt64) * (v1 + (w6.toInt64))))) 30 2 ((S.2.1 30 2) + (w4.toInt64))))) (by rfl) ?_
    refine aLocs [4, 1, 0] (lv' := [(0, .ref 30), (1, .long (v1 + (w6.toInt64))), (3, .int (v3 + (1 : Int32)))]) rfl ?_
    exact hrec14 (v1 + (w6.toInt64)) (v3 + (1 : Int32)) (aL (aL S 30 1 ((S.2.1 30 1) + ((w4.toInt64) * (v1 + (w6.toInt64))))) 30 2 ((S.2.1 30 2) + (w4.toInt64))) hf
def X3_sumUp_30_l14 (N : Nat) : Nat → Int64 → Int32 → aSt → Option (aSt)
  | 0 => fun _ _ _ => none
  | n + 1 => X3_sumUp_30_b14 N (X3_sumUp_30_l14 N n)
theorem X3_sumUp_30_l14_ok {C : aC} {N : Nat} (hC : aCx C M_X3_sumUp) {r : aSt} (hF : aFin C none LAY r 0 0) : ∀ (n : Nat) (v1 : Int64) (v3 : Int32) (S : aSt), X3_sumUp_30_l14 N n v1 v3 S = (some r) → aX C M_X3_sumUp 0 0 (14, [(0, .ref 30), (1, .long v1), (3, .int v3)], [], LAY, S)
  | 0, _, _, _,  h => nomatch (show (none : Option (aSt)) = some _ from h)
  | n + 1, v1, v3, S,  h => X3_sumUp_30_b14_ok hC hF (fun v1 v3 S h => X3_sumUp_30_l14_ok hC hF n v1 v3 S h) v1 v3 S h
def X3_sumUp_30 (N : Nat) (S : aSt) : Option (aSt) := (X3_sumUp_30_l14 N N (0 : Int64) (0 : Int32) (aL (aL S 30 1 (0 : Int64)) 30 2 (0 : Int64)))
set_option maxHeartbeats 4000000 in
set_option maxRecDepth 100000 in
theorem J_X3_sumUp_30 (l : Launch) (g : aWg) (N : Nat) (S : aSt) {r : aSt} (hf : X3_sumUp_30 N S = (some r)) : aJ l g yX3_sumUp M_X3_sumUp [.ref 30] LAY S none LAY r 0 0 := by
  refine aJ_of (by decide +kernel) rfl (Nat.le_of_ble_eq_true rfl) (fun h => nomatch h) ?_
  intro C hg hl hC hz hF
  subst hg; subst hl
  have hT := ok_X3_sumUp
  unfold X3_sumUp_30 at hf
  show aX C M_X3_sumUp 0 0 (0, [(0, .ref 30)], [], LAY, S)
  refine aRun_ok hC hT 10 (cf' := (14, [(3, .int (0 : Int32)), (1, .long (0 : Int64)), (0, .ref 30)], [], LAY, (aL (aL S 30 1 (0 : Int64)) 30 2 (0 : Int64)))) (by rfl) ?_
  refine aLocs [2, 1, 0] (lv' := [(0, .ref 30), (1, .long (0 : Int64)), (3, .int (0 : Int32))]) rfl ?_
  exact X3_sumUp_30_l14_ok hC hF N (0 : Int64) (0 : Int32) (aL (aL S 30 1 (0 : Int64)) 30 2 (0 : Int64)) hf
def X6_set_32 (a1 : Int32) (a2 : Int32) (S : aSt) : aSt := (if a1 < (0 : Int32) then S else (if (30 : Int32) ≤ a1 then S else (aA S 32 (upd (S.2.2 32) a1.toNatClampNeg a2))))
set_option maxHeartbeats 4000000 in
set_option maxRecDepth 100000 in
theorem J_X6_set_32 (l : Launch) (g : aWg) (a1 : Int32) (a2 : Int32) (S : aSt) {r : aSt} (hf : X6_set_32 a1 a2 S = r) : aJ l g yX6_set M_X6_set [.ref 32, .int a1, .int a2] LAY S none LAY r 0 0 := by
  refine aJ_of (by decide +kernel) rfl (Nat.le_of_ble_eq_true rfl) (fun h => nomatch h) ?_
  intro C hg hl hC hz hF
  subst hg; subst hl
  have hT := ok_X6_set
  unfold X6_set_32 at hf
  show aX C M_X6_set 0 0 (0, [(0, .ref 32), (1, .int a1), (2, .int a2)], [], LAY, S)
  refine aRun_ok hC hT 1 (cf' := (1, [(0, .ref 32), (1, .int a1), (2, .int a2)], [.int a1], LAY, S)) (by rfl) ?_
  refine aIf_lt hC hT (tgt := 14) rfl (by decide) (fun hc1 => ?_) (fun hc1 => ?_)
  · have hf := aIfT hf hc1
    subst hf
    exact aRetV hC hT hF rfl rfl
  · have hf := aIfF hf hc1
    refine aRun_ok hC hT 3 (cf' := (7, [(0, .ref 32), (1, .int a1), (2, .int a2)], [.int (30 : Int32), .int a1], LAY, S)) (by rfl) ?_
    refine aCmp_ge hC hT (tgt := 14) rfl (by decide) (fun hc2 => ?_) (fun hc2 => ?_)
    · have hf := aIfT hf hc2
      subst hf
      exact aRetV hC hT hF rfl rfl
    · have hf := aIfF hf hc2
      refine aRun_ok hC hT 3 (cf' := (13, [(0, .ref 32), (1, .int a1), (2, .int a2)], [.int a2, .int a1, .ref 32], LAY, S)) (by rfl) ?_
      refine aIast hC hT rfl (by decide) (by rfl) (aIx_of hc1 hc2 (by decide)) ?_
      subst hf
      exact aRetV hC hT hF rfl rfl
def X6_set_33 (a1 : Int32) (a2 : Int32) (S : aSt) : aSt := (if a1 < (0 : Int32) then S else (if (30 : Int32) ≤ a1 then S else (aA S 33 (upd (S.2.2 33) a1.toNatClampNeg a2))))
set_option maxHeartbeats 4000000 in
set_option maxRecDepth 100000 in
theorem J_X6_set_33 (l : Launch) (g : aWg) (a1 : Int32) (a2 : Int32) (S : aSt) {r : aSt} (hf : X6_set_33 a1 a2 S = r) : aJ l g yX6_set M_X6_set [.ref 33, .int a1, .int a2] LAY S none LAY r 0 0 := by
  refine aJ_of (by decide +kernel) rfl (Nat.le_of_ble_eq_true rfl) (fun h => nomatch h) ?_
  intro C hg hl hC hz hF
  subst hg; subst hl
  have hT := ok_X6_set
  unfold X6_set_33 at hf
  show aX C M_X6_set 0 0 (0, [(0, .ref 33), (1, .int a1), (2, .int a2)], [], LAY, S)
  refine aRun_ok hC hT 1 (cf' := (1, [(0, .ref 33), (1, .int a1), (2, .int a2)], [.int a1], LAY, S)) (by rfl) ?_
  refine aIf_lt hC hT (tgt := 14) rfl (by decide) (fun hc1 => ?_) (fun hc1 => ?_)
  · have hf := aIfT hf hc1
    subst hf
    exact aRetV hC hT hF rfl rfl
  · have hf := aIfF hf hc1
    refine aRun_ok hC hT 3 (cf' := (7, [(0, .ref 33), (1, .int a1), (2, .int a2)], [.int (30 : Int32), .int a1], LAY, S)) (by rfl) ?_
    refine aCmp_ge hC hT (tgt := 14) rfl (by decide) (fun hc2 => ?_) (fun hc2 => ?_)
    · have hf := aIfT hf hc2
      subst hf
      exact aRetV hC hT hF rfl rfl
    · have hf := aIfF hf hc2
      refine aRun_ok hC hT 3 (cf' := (13, [(0, .ref 33), (1, .int a1), (2, .int a2)], [.int a2, .int a1, .ref 33], LAY, S)) (by rfl) ?_
      refine aIast hC hT rfl (by decide) (by rfl) (aIx_of hc1 hc2 (by decide)) ?_
      subst hf
      exact aRetV hC hT hF rfl rfl
def X3_isSooner_30 (a1 : Int32) (a2 : Int32) (S : aSt) : Int32 := (aLet (X6_at_31 a1 S) (fun w1 => (aLet (X6_at_32 a2 S) (fun w3 => (aLet (X6_at_31 a2 S) (fun w5 => (aLet (X6_at_32 a1 S) (fun w7 => (if (w1 * w3) ≤ (w5 * w7) then (0 : Int32) else (1 : Int32))))))))))
set_option maxHeartbeats 4000000 in
set_option maxRecDepth 100000 in
theorem J_X3_isSooner_30 (l : Launch) (g : aWg) (a1 : Int32) (a2 : Int32) (S : aSt) {r : Int32} (hf : X3_isSooner_30 a1 a2 S = r) : aJ l g yX3_isSooner M_X3_isSooner [.ref 30, .int a1, .int a2] LAY S (some (.int r)) LAY S 0 0 := by
  refine aJ_of (by decide +kernel) rfl (Nat.le_of_ble_eq_true rfl) (fun h => nomatch h) ?_
  intro C hg hl hC hz hF
  subst hg; subst hl
  have hT := ok_X3_isSooner
  unfold X3_isSooner_30 at hf
  show aX C M_X3_isSooner 0 0 (0, [(0, .ref 30), (1, .int a1), (2, .int a2)], [], LAY, S)
  refine aRun_ok hC hT 3 (cf' := (5, [(0, .ref 30), (1, .int a1), (2, .int a2)], [.int a1, .ref 31], LAY, S)) (by rfl) ?_
  obtain ⟨w1, ew2, hf⟩ := aLetE hf
  refine aCallS (As := [.ref 31, .int a1]) (rest := []) hC hT rfl k_X3_isSooner_33.1 _ k_X3_isSooner_33.2 (by rfl) (Nat.le_of_ble_eq_true rfl) (by decide) (J_X6_at_31 C.2.2.1 C.1 a1 S ew2) ?_
  refine aRun_ok hC hT 3 (cf' := (13, [(0, .ref 30), (1, .int a1), (2, .int a2)], [.int a2, .ref 32, .int w1], LAY, S)) (by rfl) ?_
  obtain ⟨w3, ew4, hf⟩ := aLetE hf
  refine aCallS (As := [.ref 32, .int a2]) (rest := [.int w1]) hC hT rfl k_X3_isSooner_33.1 _ k_X3_isSooner_33.2 (by rfl) (Nat.le_of_ble_eq_true rfl) (by decide) (J_X6_at_32 C.2.2.1 C.1 a2 S ew4) ?_
  refine aRun_ok hC hT 4 (cf' := (22, [(0, .ref 30), (1, .int a1), (2, .int a2)], [.int a2, .ref 31, .int (w1 * w3)], LAY, S)) (by rfl) ?_
  obtain ⟨w5, ew6, hf⟩ := aLetE hf
  refine aCallS (As := [.ref 31, .int a2]) (rest := [.int (w1 * w3)]) hC hT rfl k_X3_isSooner_33.1 _ k_X3_isSooner_33.2 (by rfl) (Nat.le_of_ble_eq_true rfl) (by decide) (J_X6_at_31 C.2.2.1 C.1 a2 S ew6) ?_
  refine aRun_ok hC hT 3 (cf' := (30, [(0, .ref 30), (1, .int a1), (2, .int a2)], [.int a1, .ref 32, .int w5, .int (w1 * w3)], LAY, S)) (by rfl) ?_
  obtain ⟨w7, ew8, hf⟩ := aLetE hf
  refine aCallS (As := [.ref 32, .int a1]) (rest := [.int w5, .int (w1 * w3)]) hC hT rfl k_X3_isSooner_33.1 _ k_X3_isSooner_33.2 (by rfl) (Nat.le_of_ble_eq_true rfl) (by decide) (J_X6_at_32 C.2.2.1 C.1 a1 S ew8) ?_
  refine aRun_ok hC hT 1 (cf' := (34, [(0, .ref 30), (1, .int a1), (2, .int a2)], [.int (w5 * w7), .int (w1 * w3)], LAY, S)) (by rfl) ?_
  refine aCmp_le hC hT (tgt := 41) rfl (by decide) (fun hc9 => ?_) (fun hc9 => ?_)
  · have hf := aIfT hf hc9
    refine aRun_ok hC hT 1 (cf' := (42, [(0, .ref 30), (1, .int a1), (2, .int a2)], [.int (0 : Int32)], LAY, S)) (by rfl) ?_
    subst hf
    exact aRetB hC hT hF rfl (Or.inl rfl) rfl
  · have hf := aIfF hf hc9
    refine aRun_ok hC hT 2 (cf' := (42, [(0, .ref 30), (1, .int a1), (2, .int a2)], [.int (1 : Int32)], LAY, S)) (by rfl) ?_
    subst hf
    exact aRetB hC hT hF rfl (Or.inr rfl) rfl
def X3_insert_30_b51 (N : Nat) (v1 : Int32) (v2 : Int32) (S : aSt) : Option (aSt) := (aLet (X6_set_33 v2 v1 S) (fun w2 => some ((aI w2 30 0 ((w2.1 30 0) + (1 : Int32))))))
set_option maxHeartbeats 4000000 in
set_option maxRecDepth 100000 in
theorem X3_insert_30_b51_ok {C : aC} {N : Nat} (hC : aCx C M_X3_insert) {r : aSt} (hF : aFin C none LAY r 0 0) (v1 : Int32) (v2 : Int32) (S : aSt) (hf : X3_insert_30_b51 N v1 v2 S = (some r)) : aX C M_X3_insert 0 0 (51, [(0, .ref 30), (1, .int v1), (2, .int v2)], [], LAY, S) := by
  have hT := ok_X3_insert
  unfold X3_insert_30_b51 at hf
  refine aRun_ok hC hT 4 (cf' := (57, [(0, .ref 30), (1, .int v1), (2, .int v2)], [.int v1, .int v2, .ref 33], LAY, S)) (by rfl) ?_
  obtain ⟨w2, ew3, hf⟩ := aLetE hf
  refine aCallS (As := [.ref 33, .int v2, .int v1]) (rest := []) hC hT rfl k_X3_insert_67.1 _ k_X3_insert_67.2 (by rfl) (Nat.le_of_ble_eq_true rfl) (by decide) (J_X6_set_33 C.2.2.1 C.1 v2 v1 S ew3) ?_
  refine aRun_ok hC hT 6 (cf' := (70, [(0, .ref 30), (1, .int v1), (2, .int v2)], [], LAY, (aI w2 30 0 ((w2.1 30 0) + (1 : Int32))))) (by rfl) ?_
  have e9 := Option.some.inj hf; subst e9
  exact aRetV hC hT hF rfl rfl
def X3_insert_30_b5 (N : Nat) (rec5 : Int32 → Int32 → aSt → Option (aSt)) (v1 : Int32) (v2 : Int32) (S : aSt) : Option (aSt) := (if v2 ≤ (0 : Int32) then (X3_insert_30_b51 N v1 v2 S) else (aLet (X6_at_33 (v2 - (1 : Int32)) S) (fun w4 => (aLet (X3_isSooner_30 v1 w4 S) (fun w6 => (if w6 = (0 : Int32) then (X3_insert_30_b51 N v1 v2 S) else (aLet (X6_at_33 (v2 - (1 : Int32)) S) (fun w9 => (aLet (X6_set_33 v2 w9 S) (fun w11 => (rec5 v1 (v2 + ((-1) : Int32)) w11)))))))))))
set_option maxHeartbeats 4000000 in
set_option maxRecDepth 100000 in
theorem X3_insert_30_b5_ok {C : aC} {N : Nat} {rec5 : Int32 → Int32 → aSt → Option (aSt)} (hC : aCx C M_X3_insert) {r : aSt} (hF : aFin C none LAY r 0 0) (hrec5 : ∀ (v1 : Int32) (v2 : Int32) (S : aSt), rec5 v1 v2 S = (some r) → aX C M_X3_insert 0 0 (5, [(0, .ref 30), (1, .int v1), (2, .int v2)], [], LAY, S)) (v1 : Int32) (v2 : Int32) (S : aSt) (hf : X3_insert_30_b5 N rec5 v1 v2 S = (some r)) : aX C M_X3_insert 0 0 (5, [(0, .ref 30), (1, .int v1), (2, .int v2)], [], LAY, S) := by
  have hT := ok_X3_insert
  unfold X3_insert_30_b5 at hf
  refine aRun_ok hC hT 1 (cf' := (6, [(0, .ref 30), (1, .int v1), (2, .int v2)], [.int v2], LAY, S)) (by rfl) ?_
  refine aIf_le hC hT (tgt := 51) rfl (by decide) (fun hc1 => ?_) (fun hc1 => ?_)
  · have hf := aIfT hf hc1
    exact X3_insert_30_b51_ok hC hF v1 v2 S hf
  · have hf := aIfF hf hc1
    refine aRun_ok hC hT 7 (cf' := (18, [(0, .ref 30), (1, .int v1), (2, .int v2)], [.int (v2 - (1 : Int32)), .ref 33, .int v1, .ref 30], LAY, S)) (by rfl) ?_
    obtain ⟨w4, ew5, hf⟩ := aLetE hf
    refine aCallS (As := [.ref 33, .int (v2 - (1 : Int32))]) (rest := [.int v1, .ref 30]) hC hT rfl k_X3_insert_33.1 _ k_X3_insert_33.2 (by rfl) (Nat.le_of_ble_eq_true rfl) (by decide) (J_X6_at_33 C.2.2.1 C.1 (v2 - (1 : Int32)) S ew5) ?_
    obtain ⟨w6, ew7, hf⟩ := aLetE hf
    refine aCallV (b := 30) (As := [.int v1, .int w4]) (rest := []) hC hT rfl k_X3_insert_90.1 _ _ k_X3_insert_90.2 (by decide) (by rfl) (by rfl) (by rfl) (Nat.le_of_ble_eq_true rfl) (by decide) (J_X3_isSooner_30 C.2.2.1 C.1 v1 w4 S ew7) ?_
    refine aIf_eq hC hT (tgt := 51) rfl (by decide) (fun hc8 => ?_) (fun hc8 => ?_)
    · have hf := aIfT hf hc8
      exact X3_insert_30_b51_ok hC hF v1 v2 S hf
    · have hf := aIfF hf hc8
      refine aRun_ok hC hT 8 (cf' := (39, [(0, .ref 30), (1, .int v1), (2, .int v2)], [.int (v2 - (1 : Int32)), .ref 33, .int v2, .ref 33], LAY, S)) (by rfl) ?_
      obtain ⟨w9, ew10, hf⟩ := aLetE hf
      refine aCallS (As := [.ref 33, .int (v2 - (1 : Int32))]) (rest := [.int v2, .ref 33]) hC hT rfl k_X3_insert_33.1 _ k_X3_insert_33.2 (by rfl) (Nat.le_of_ble_eq_true rfl) (by decide) (J_X6_at_33 C.2.2.1 C.1 (v2 - (1 : Int32)) S ew10) ?_
      obtain ⟨w11, ew12, hf⟩ := aLetE hf
      refine aCallS (As := [.ref 33, .int v2, .int w9]) (rest := []) hC hT rfl k_X3_insert_67.1 _ k_X3_insert_67.2 (by rfl) (Nat.le_of_ble_eq_true rfl) (by decide) (J_X6_set_33 C.2.2.1 C.1 v2 w9 S ew12) ?_
      refine aRun_ok hC hT 2 (cf' := (5, [(2, .int (v2 + ((-1) : Int32))), (0, .ref 30), (1, .int v1)], [], LAY, w11)) (by rfl) ?_
      refine aLocs [1, 2, 0] (lv' := [(0, .ref 30), (1, .int v1), (2, .int (v2 + ((-1) : Int32)))]) rfl ?_
      exact hrec5 v1 (v2 + ((-1) : Int32)) w11 hf
def X3_insert_30_l5 (N : Nat) : Nat → Int32 → Int32 → aSt → Option (aSt)
  | 0 => fun _ _ _ => none
  | n + 1 => X3_insert_30_b5 N (X3_insert_30_l5 N n)
theorem X3_insert_30_l5_ok {C : aC} {N : Nat} (hC : aCx C M_X3_insert) {r : aSt} (hF : aFin C none LAY r 0 0) : ∀ (n : Nat) (v1 : Int32) (v2 : Int32) (S : aSt), X3_insert_30_l5 N n v1 v2 S = (some r) → aX C M_X3_insert 0 0 (5, [(0, .ref 30), (1, .int v1), (2, .int v2)], [], LAY, S)
  | 0, _, _, _,  h => nomatch (show (none : Option (aSt)) = some _ from h)
  | n + 1, v1, v2, S,  h => X3_insert_30_b5_ok hC hF (fun v1 v2 S h => X3_insert_30_l5_ok hC hF n v1 v2 S h) v1 v2 S h
def X3_insert_30 (N : Nat) (a1 : Int32) (S : aSt) : Option (aSt) := (X3_insert_30_l5 N N a1 (S.1 30 0) S)
set_option maxHeartbeats 4000000 in
set_option maxRecDepth 100000 in
theorem J_X3_insert_30 (l : Launch) (g : aWg) (N : Nat) (a1 : Int32) (S : aSt) {r : aSt} (hf : X3_insert_30 N a1 S = (some r)) : aJ l g yX3_insert M_X3_insert [.ref 30, .int a1] LAY S none LAY r 0 0 := by
  refine aJ_of (by decide +kernel) rfl (Nat.le_of_ble_eq_true rfl) (fun h => nomatch h) ?_
  intro C hg hl hC hz hF
  subst hg; subst hl
  have hT := ok_X3_insert
  unfold X3_insert_30 at hf
  show aX C M_X3_insert 0 0 (0, [(0, .ref 30), (1, .int a1)], [], LAY, S)
  refine aRun_ok hC hT 3 (cf' := (5, [(2, .int (S.1 30 0)), (0, .ref 30), (1, .int a1)], [], LAY, S)) (by rfl) ?_
  refine aLocs [1, 2, 0] (lv' := [(0, .ref 30), (1, .int a1), (2, .int (S.1 30 0))]) rfl ?_
  exact X3_insert_30_l5_ok hC hF N a1 (S.1 30 0) S hf
def X6_at_23 (a1 : Int32) (S : aSt) : Int32 := (if a1 < (0 : Int32) then (0 : Int32) else (if (157 : Int32) ≤ a1 then (0 : Int32) else ((S.2.2 23) a1.toNatClampNeg)))
set_option maxHeartbeats 4000000 in
set_option maxRecDepth 100000 in
theorem J_X6_at_23 (l : Launch) (g : aWg) (a1 : Int32) (S : aSt) {r : Int32} (hf : X6_at_23 a1 S = r) : aJ l g yX6_at M_X6_at [.ref 23, .int a1] LAY S (some (.int r)) LAY S 0 0 := by
  refine aJ_of (by decide +kernel) rfl (Nat.le_of_ble_eq_true rfl) (fun h => nomatch h) ?_
  intro C hg hl hC hz hF
  subst hg; subst hl
  have hT := ok_X6_at
  unfold X6_at_23 at hf
  show aX C M_X6_at 0 0 (0, [(0, .ref 23), (1, .int a1)], [], LAY, S)
  refine aRun_ok hC hT 1 (cf' := (1, [(0, .ref 23), (1, .int a1)], [.int a1], LAY, S)) (by rfl) ?_
  refine aIf_lt hC hT (tgt := 16) rfl (by decide) (fun hc1 => ?_) (fun hc1 => ?_)
  · have hf := aIfT hf hc1
    refine aRun_ok hC hT 1 (cf' := (17, [(0, .ref 23), (1, .int a1)], [.int (0 : Int32)], LAY, S)) (by rfl) ?_
    subst hf
    exact aRetI hC hT hF rfl rfl
  · have hf := aIfF hf hc1
    refine aRun_ok hC hT 3 (cf' := (7, [(0, .ref 23), (1, .int a1)], [.int (157 : Int32), .int a1], LAY, S)) (by rfl) ?_
    refine aCmp_ge hC hT (tgt := 16) rfl (by decide) (fun hc2 => ?_) (fun hc2 => ?_)
    · have hf := aIfT hf hc2
      refine aRun_ok hC hT 1 (cf' := (17, [(0, .ref 23), (1, .int a1)], [.int (0 : Int32)], LAY, S)) (by rfl) ?_
      subst hf
      exact aRetI hC hT hF rfl rfl
    · have hf := aIfF hf hc2
      refine aRun_ok hC hT 2 (cf' := (12, [(0, .ref 23), (1, .int a1)], [.int a1, .ref 23], LAY, S)) (by rfl) ?_
      refine aIald hC hT rfl (by decide) (by rfl) (aIx_of hc1 hc2 (by decide)) ?_
      refine aRun_ok hC hT 1 (cf' := (17, [(0, .ref 23), (1, .int a1)], [.int ((S.2.2 23) a1.toNatClampNeg)], LAY, S)) (by rfl) ?_
      subst hf
      exact aRetI hC hT hF rfl rfl
def X7_slip_22 (a1 : Int32) (S : aSt) : Int32 := (aLet (X6_at_23 a1 S) (fun w1 => w1))
set_option maxHeartbeats 4000000 in
set_option maxRecDepth 100000 in
theorem J_X7_slip_22 (l : Launch) (g : aWg) (a1 : Int32) (S : aSt) {r : Int32} (hf : X7_slip_22 a1 S = r) : aJ l g yX7_slip M_X7_slip [.ref 22, .int a1] LAY S (some (.int r)) LAY S 0 0 := by
  refine aJ_of (by decide +kernel) rfl (Nat.le_of_ble_eq_true rfl) (fun h => nomatch h) ?_
  intro C hg hl hC hz hF
  subst hg; subst hl
  have hT := ok_X7_slip
  unfold X7_slip_22 at hf
  show aX C M_X7_slip 0 0 (0, [(0, .ref 22), (1, .int a1)], [], LAY, S)
  refine aRun_ok hC hT 3 (cf' := (5, [(0, .ref 22), (1, .int a1)], [.int a1, .ref 23], LAY, S)) (by rfl) ?_
  obtain ⟨w1, ew2, hf⟩ := aLetE hf
  refine aCallS (As := [.ref 23, .int a1]) (rest := []) hC hT rfl k_X7_slip_30.1 _ k_X7_slip_30.2 (by rfl) (Nat.le_of_ble_eq_true rfl) (by decide) (J_X6_at_23 C.2.2.1 C.1 a1 S ew2) ?_
  subst hf
  exact aRetI hC hT hF rfl rfl
def X6_set_31 (a1 : Int32) (a2 : Int32) (S : aSt) : aSt := (if a1 < (0 : Int32) then S else (if (30 : Int32) ≤ a1 then S else (aA S 31 (upd (S.2.2 31) a1.toNatClampNeg a2))))
set_option maxHeartbeats 4000000 in
set_option maxRecDepth 100000 in
theorem J_X6_set_31 (l : Launch) (g : aWg) (a1 : Int32) (a2 : Int32) (S : aSt) {r : aSt} (hf : X6_set_31 a1 a2 S = r) : aJ l g yX6_set M_X6_set [.ref 31, .int a1, .int a2] LAY S none LAY r 0 0 := by
  refine aJ_of (by decide +kernel) rfl (Nat.le_of_ble_eq_true rfl) (fun h => nomatch h) ?_
  intro C hg hl hC hz hF
  subst hg; subst hl
  have hT := ok_X6_set
  unfold X6_set_31 at hf
  show aX C M_X6_set 0 0 (0, [(0, .ref 31), (1, .int a1), (2, .int a2)], [], LAY, S)
  refine aRun_ok hC hT 1 (cf' := (1, [(0, .ref 31), (1, .int a1), (2, .int a2)], [.int a1], LAY, S)) (by rfl) ?_
  refine aIf_lt hC hT (tgt := 14) rfl (by decide) (fun hc1 => ?_) (fun hc1 => ?_)
  · have hf := aIfT hf hc1
    subst hf
    exact aRetV hC hT hF rfl rfl
  · have hf := aIfF hf hc1
    refine aRun_ok hC hT 3 (cf' := (7, [(0, .ref 31), (1, .int a1), (2, .int a2)], [.int (30 : Int32), .int a1], LAY, S)) (by rfl) ?_
    refine aCmp_ge hC hT (tgt := 14) rfl (by decide) (fun hc2 => ?_) (fun hc2 => ?_)
    · have hf := aIfT hf hc2
      subst hf
      exact aRetV hC hT hF rfl rfl
    · have hf := aIfF hf hc2
      refine aRun_ok hC hT 3 (cf' := (13, [(0, .ref 31), (1, .int a1), (2, .int a2)], [.int a2, .int a1, .ref 31], LAY, S)) (by rfl) ?_
      refine aIast hC hT rfl (by decide) (by rfl) (aIx_of hc1 hc2 (by decide)) ?_
      subst hf
      exact aRetV hC hT hF rfl rfl
def X3_build_30_b142 (N : Nat) (S : aSt) : Option (aSt) := (Option.bind (X3_sumUp_30 N S) (fun w5 => some (w5)))
set_option maxHeartbeats 4000000 in
set_option maxRecDepth 100000 in
theorem X3_build_30_b142_ok {C : aC} {N : Nat} (hC : aCx C M_X3_build) {r : aSt} (hF : aFin C none LAY r 0 0) (S : aSt) (hf : X3_build_30_b142 N S = (some r)) : aX C M_X3_build 0 0 (142, [(0, .ref 30)], [], LAY, S) := by
  have hT := ok_X3_build
  unfold X3_build_30_b142 at hf
  refine aRun_ok hC hT 1 (cf' := (143, [(0, .ref 30)], [.ref 30], LAY, S)) (by rfl) ?_
  obtain ⟨w5, ew6, hf⟩ := aBnE hf
  refine aCallV (b := 30) (As := []) (rest := []) hC hT rfl k_X3_build_87.1 _ _ k_X3_build_87.2 (by decide) (by rfl) (by rfl) (by rfl) (Nat.le_of_ble_eq_true rfl) (by decide) (J_X3_sumUp_30 C.2.2.1 C.1 N  S ew6) ?_
  have e9 := Option.some.inj hf; subst e9
  exact aRetV hC hT hF rfl rfl
def X3_build_30_b136 (N : Nat) (rec89 : Int32 → aSt → Option (aSt)) (v1 : Int32) (S : aSt) : Option (aSt) := (rec89 (v1 + (1 : Int32)) S)
set_option maxHeartbeats 4000000 in
set_option maxRecDepth 100000 in
theorem X3_build_30_b136_ok {C : aC} {N : Nat} {rec89 : Int32 → aSt → Option (aSt)} (hC : aCx C M_X3_build) {r : aSt} (hF : aFin C none LAY r 0 0) (hrec89 : ∀ (v1 : Int32) (S : aSt), rec89 v1 S = (some r) → aX C M_X3_build 0 0 (89, [(0, .ref 30), (1, .int v1)], [], LAY, S)) (v1 : Int32) (S : aSt) (hf : X3_build_30_b136 N rec89 v1 S = (some r)) : aX C M_X3_build 0 0 (136, [(0, .ref 30), (1, .int v1)], [], LAY, S) := by
  have hT := ok_X3_build
  unfold X3_build_30_b136 at hf
  refine aRun_ok hC hT 2 (cf' := (89, [(1, .int (v1 + (1 : Int32))), (0, .ref 30)], [], LAY, S)) (by rfl) ?_
  refine aLocs [1, 0] (lv' := [(0, .ref 30), (1, .int (v1 + (1 : Int32)))]) rfl ?_
  exact hrec89 (v1 + (1 : Int32)) S hf
def X3_build_30_b89 (N : Nat) (rec89 : Int32 → aSt → Option (aSt)) (v1 : Int32) (S : aSt) : Option (aSt) := (if (S.1 8 0) ≤ v1 then (X3_build_30_b142 N S) else (aLet (X2_told_8 v1 (1 : Int32) S) (fun w7 => (Option.bind (X0_many N w7) (fun w9 => (aLet (X6_set_32 v1 w9 S) (fun w11 => (aLet (X6_at_31 v1 w11) (fun w13 => (if w13 ≤ (0 : Int32) then (X3_build_30_b136 N rec89 v1 w11) else (Option.bind (X3_insert_30 N v1 w11) (fun w16 => (X3_build_30_b136 N rec89 v1 w16)))))))))))))
set_option maxHeartbeats 4000000 in
set_option maxRecDepth 100000 in
theorem X3_build_30_b89_ok {C : aC} {N : Nat} {rec89 : Int32 → aSt → Option (aSt)} (hC : aCx C M_X3_build) {r : aSt} (hF : aFin C none LAY r 0 0) (hrec89 : ∀ (v1 : Int32) (S : aSt), rec89 v1 S = (some r) → aX C M_X3_build 0 0 (89, [(0, .ref 30), (1, .int v1)], [], LAY, S)) (v1 : Int32) (S : aSt) (hf : X3_build_30_b89 N rec89 v1 S = (some r)) : aX C M_X3_build 0 0 (89, [(0, .ref 30), (1, .int v1)], [], LAY, S) := by
  have hT := ok_X3_build
  unfold X3_build_30_b89 at hf
  refine aRun_ok hC hT 4 (cf' := (97, [(0, .ref 30), (1, .int v1)], [.int (S.1 8 0), .int v1], LAY, S)) (by rfl) ?_
  refine aCmp_ge hC hT (tgt := 142) rfl (by decide) (fun hc4 => ?_) (fun hc4 => ?_)
  · have hf := aIfT hf hc4
    refine aLocs [0] (lv' := [(0, .ref 30)]) rfl ?_
    exact X3_build_30_b142_ok hC hF S hf
  · have hf := aIfF hf hc4
    refine aRun_ok hC hT 7 (cf' := (111, [(0, .ref 30), (1, .int v1)], [.int (1 : Int32), .int v1, .ref 8, .int v1, .ref 32], LAY, S)) (by rfl) ?_
    obtain ⟨w7, ew8, hf⟩ := aLetE hf
    refine aCallV (b := 8) (As := [.int v1, .int (1 : Int32)]) (rest := [.int v1, .ref 32]) hC hT rfl k_X3_build_74.1 _ _ k_X3_build_74.2 (by decide) (by rfl) (by rfl) (by rfl) (Nat.le_of_ble_eq_true rfl) (by decide) (J_X2_told_8 C.2.2.1 C.1 v1 (1 : Int32) S ew8) ?_
    obtain ⟨w9, ew10, hf⟩ := aBnE hf
    refine aCallS (As := [.int w7]) (rest := [.int v1, .ref 32]) hC hT rfl k_X3_build_78.1 _ k_X3_build_78.2 (by rfl) (Nat.le_of_ble_eq_true rfl) (by decide) (J_X0_many C.2.2.1 C.1 N w7 S ew10) ?_
    obtain ⟨w11, ew12, hf⟩ := aLetE hf
    refine aCallS (As := [.ref 32, .int v1, .int w9]) (rest := []) hC hT rfl k_X3_build_67.1 _ k_X3_build_67.2 (by rfl) (Nat.le_of_ble_eq_true rfl) (by decide) (J_X6_set_32 C.2.2.1 C.1 v1 w9 S ew12) ?_
    refine aRun_ok hC hT 3 (cf' := (125, [(0, .ref 30), (1, .int v1)], [.int v1, .ref 31], LAY, w11)) (by rfl) ?_
    obtain ⟨w13, ew14, hf⟩ := aLetE hf
    refine aCallS (As := [.ref 31, .int v1]) (rest := []) hC hT rfl k_X3_build_33.1 _ k_X3_build_33.2 (by rfl) (Nat.le_of_ble_eq_true rfl) (by decide) (J_X6_at_31 C.2.2.1 C.1 v1 w11 ew14) ?_
    refine aIf_le hC hT (tgt := 136) rfl (by decide) (fun hc15 => ?_) (fun hc15 => ?_)
    · have hf := aIfT hf hc15
      exact X3_build_30_b136_ok hC hF hrec89 v1 w11 hf
    · have hf := aIfF hf hc15
      refine aRun_ok hC hT 2 (cf' := (133, [(0, .ref 30), (1, .int v1)], [.int v1, .ref 30], LAY, w11)) (by rfl) ?_
      obtain ⟨w16, ew17, hf⟩ := aBnE hf
      refine aCallV (b := 30) (As := [.int v1]) (rest := []) hC hT rfl k_X3_build_83.1 _ _ k_X3_build_83.2 (by decide) (by rfl) (by rfl) (by rfl) (Nat.le_of_ble_eq_true rfl) (by decide) (J_X3_insert_30 C.2.2.1 C.1 N v1 w11 ew17) ?_
      exact X3_build_30_b136_ok hC hF hrec89 v1 w16 hf
def X3_build_30_l89 (N : Nat) : Nat → Int32 → aSt → Option (aSt)
  | 0 => fun _ _ => none
  | n + 1 => X3_build_30_b89 N (X3_build_30_l89 N n)
theorem X3_build_30_l89_ok {C : aC} {N : Nat} (hC : aCx C M_X3_build) {r : aSt} (hF : aFin C none LAY r 0 0) : ∀ (n : Nat) (v1 : Int32) (S : aSt), X3_build_30_l89 N n v1 S = (some r) → aX C M_X3_build 0 0 (89, [(0, .ref 30), (1, .int v1)], [], LAY, S)
  | 0, _, _,  h => nomatch (show (none : Option (aSt)) = some _ from h)
  | n + 1, v1, S,  h => X3_build_30_b89_ok hC hF (fun v1 S h => X3_build_30_l89_ok hC hF n v1 S h) v1 S h
def X3_build_30_b87 (N : Nat) (S : aSt) : Option (aSt) := (X3_build_30_l89 N N (0 : Int32) S)
set_option maxHeartbeats 4000000 in
set_option maxRecDepth 100000 in
theorem X3_build_30_b87_ok {C : aC} {N : Nat} (hC : aCx C M_X3_build) {r : aSt} (hF : aFin C none LAY r 0 0) (S : aSt) (hf : X3_build_30_b87 N S = (some r)) : aX C M_X3_build 0 0 (87, [(0, .ref 30)], [], LAY, S) := by
  have hT := ok_X3_build
  unfold X3_build_30_b87 at hf
  refine aRun_ok hC hT 2 (cf' := (89, [(1, .int (0 : Int32)), (0, .ref 30)], [], LAY, S)) (by rfl) ?_
  refine aLocs [1, 0] (lv' := [(0, .ref 30), (1, .int (0 : Int32))]) rfl ?_
  exact X3_build_30_l89_ok hC hF N (0 : Int32) S hf
def X3_build_30_b81 (N : Nat) (rec15 : Int32 → aSt → Option (aSt)) (v1 : Int32) (S : aSt) : Option (aSt) := (rec15 (v1 + (1 : Int32)) S)
set_option maxHeartbeats 4000000 in
set_option maxRecDepth 100000 in
theorem X3_build_30_b81_ok {C : aC} {N : Nat} {rec15 : Int32 → aSt → Option (aSt)} (hC : aCx C M_X3_build) {r : aSt} (hF : aFin C none LAY r 0 0) (hrec15 : ∀ (v1 : Int32) (S : aSt), rec15 v1 S = (some r) → aX C M_X3_build 0 0 (15, [(0, .ref 30), (1, .int v1)], [], LAY, S)) (v1 : Int32) (S : aSt) (hf : X3_build_30_b81 N rec15 v1 S = (some r)) : aX C M_X3_build 0 0 (81, [(0, .ref 30), (1, .int v1)], [], LAY, S) := by
  have hT := ok_X3_build
  unfold X3_build_30_b81 at hf
  refine aRun_ok hC hT 2 (cf' := (15, [(1, .int (v1 + (1 : Int32))), (0, .ref 30)], [], LAY, S)) (by rfl) ?_
  refine aLocs [1, 0] (lv' := [(0, .ref 30), (1, .int (v1 + (1 : Int32)))]) rfl ?_
  exact hrec15 (v1 + (1 : Int32)) S hf
def X3_build_30_b15 (N : Nat) (rec15 : Int32 → aSt → Option (aSt)) (v1 : Int32) (S : aSt) : Option (aSt) := (if (S.1 22 0) ≤ v1 then (X3_build_30_b87 N S) else (aLet (X7_slip_22 v1 S) (fun w18 => (aLet (X8_kind_14 w18 S) (fun w20 => (if (5 : Int32) ≤ w20 then (X3_build_30_b81 N rec15 v1 S) else (aLet (X8_place_14 w18 S) (fun w23 => (aLet (X6_at_31 w23 S) (fun w25 => (aLet (X8_weight_14 w18 S) (fun w27 => (aLet (X6_set_31 w23 (w25 + w27) S) (fun w29 => (X3_build_30_b81 N rec15 v1 w29)))))))))))))))
set_option maxHeartbeats 4000000 in
set_option maxRecDepth 100000 in
theorem X3_build_30_b15_ok {C : aC} {N : Nat} {rec15 : Int32 → aSt → Option (aSt)} (hC : aCx C M_X3_build) {r : aSt} (hF : aFin C none LAY r 0 0) (hrec15 : ∀ (v1 : Int32) (S : aSt), rec15 v1 S = (some r) → aX C M_X3_build 0 0 (15, [(0, .ref 30), (1, .int v1)], [], LAY, S)) (v1 : Int32) (S : aSt) (hf : X3_build_30_b15 N rec15 v1 S = (some r)) : aX C M_X3_build 0 0 (15, [(0, .ref 30), (1, .int v1)], [], LAY, S) := by
  have hT := ok_X3_build
  unfold X3_build_30_b15 at hf
  refine aRun_ok hC hT 4 (cf' := (23, [(0, .ref 30), (1, .int v1)], [.int (S.1 22 0), .int v1], LAY, S)) (by rfl) ?_
  refine aCmp_ge hC hT (tgt := 87) rfl (by decide) (fun hc3 => ?_) (fun hc3 => ?_)
  · have hf := aIfT hf hc3
    refine aLocs [0] (lv' := [(0, .ref 30)]) rfl ?_
    exact X3_build_30_b87_ok hC hF S hf
  · have hf := aIfF hf hc3
    refine aRun_ok hC hT 3 (cf' := (31, [(0, .ref 30), (1, .int v1)], [.int v1, .ref 22], LAY, S)) (by rfl) ?_
    obtain ⟨w18, ew19, hf⟩ := aLetE hf
    refine aCallV (b := 22) (As := [.int v1]) (rest := []) hC hT rfl k_X3_build_52.1 _ _ k_X3_build_52.2 (by decide) (by rfl) (by rfl) (by rfl) (Nat.le_of_ble_eq_true rfl) (by decide) (J_X7_slip_22 C.2.2.1 C.1 v1 S ew19) ?_
    refine aRun_ok hC hT 4 (cf' := (40, [(2, .int w18), (0, .ref 30), (1, .int v1)], [.int w18, .ref 14], LAY, S)) (by rfl) ?_
    obtain ⟨w20, ew21, hf⟩ := aLetE hf
    refine aCallV (b := 14) (As := [.int w18]) (rest := []) hC hT rfl k_X3_build_56.1 _ _ k_X3_build_56.2 (by decide) (by rfl) (by rfl) (by rfl) (Nat.le_of_ble_eq_true rfl) (by decide) (J_X8_kind_14 C.2.2.1 C.1 w18 S ew21) ?_
    refine aRun_ok hC hT 1 (cf' := (44, [(2, .int w18), (0, .ref 30), (1, .int v1)], [.int (5 : Int32), .int w20], LAY, S)) (by rfl) ?_
    refine aCmp_ge hC hT (tgt := 81) rfl (by decide) (fun hc22 => ?_) (fun hc22 => ?_)
    · have hf := aIfT hf hc22
      refine aLocs [1, 2] (lv' := [(0, .ref 30), (1, .int v1)]) rfl ?_
      exact X3_build_30_b81_ok hC hF hrec15 v1 S hf
    · have hf := aIfF hf hc22
      refine aRun_ok hC hT 3 (cf' := (52, [(2, .int w18), (0, .ref 30), (1, .int v1)], [.int w18, .ref 14], LAY, S)) (by rfl) ?_
      obtain ⟨w23, ew24, hf⟩ := aLetE hf
      refine aCallV (b := 14) (As := [.int w18]) (rest := []) hC hT rfl k_X3_build_61.1 _ _ k_X3_build_61.2 (by decide) (by rfl) (by rfl) (by rfl) (Nat.le_of_ble_eq_true rfl) (by decide) (J_X8_place_14 C.2.2.1 C.1 w18 S ew24) ?_
      refine aRun_ok hC hT 7 (cf' := (66, [(3, .int w23), (2, .int w18), (0, .ref 30), (1, .int v1)], [.int w23, .ref 31, .int w23, .ref 31], LAY, S)) (by rfl) ?_
      obtain ⟨w25, ew26, hf⟩ := aLetE hf
      refine aCallS (As := [.ref 31, .int w23]) (rest := [.int w23, .ref 31]) hC hT rfl k_X3_build_33.1 _ k_X3_build_33.2 (by rfl) (Nat.le_of_ble_eq_true rfl) (by decide) (J_X6_at_31 C.2.2.1 C.1 w23 S ew26) ?_
      refine aRun_ok hC hT 3 (cf' := (74, [(3, .int w23), (2, .int w18), (0, .ref 30), (1, .int v1)], [.int w18, .ref 14, .int w25, .int w23, .ref 31], LAY, S)) (by rfl) ?_
      obtain ⟨w27, ew28, hf⟩ := aLetE hf
      refine aCallV (b := 14) (As := [.int w18]) (rest := [.int w25, .int w23, .ref 31]) hC hT rfl k_X3_build_64.1 _ _ k_X3_build_64.2 (by decide) (by rfl) (by rfl) (by rfl) (Nat.le_of_ble_eq_true rfl) (by decide) (J_X8_weight_14 C.2.2.1 C.1 w18 S ew28) ?_
      refine aRun_ok hC hT 1 (cf' := (78, [(3, .int w23), (2, .int w18), (0, .ref 30), (1, .int v1)], [.int (w25 + w27), .int w23, .ref 31], LAY, S)) (by rfl) ?_
      obtain ⟨w29, ew30, hf⟩ := aLetE hf
      refine aCallS (As := [.ref 31, .int w23, .int (w25 + w27)]) (rest := []) hC hT rfl k_X3_build_67.1 _ k_X3_build_67.2 (by rfl) (Nat.le_of_ble_eq_true rfl) (by decide) (J_X6_set_31 C.2.2.1 C.1 w23 (w25 + w27) S ew30) ?_
      refine aLocs [2, 3] (lv' := [(0, .ref 30), (1, .int v1)]) rfl ?_
      exact X3_build_30_b81_ok hC hF hrec15 v1 w29 hf
def X3_build_30_l15 (N : Nat) : Nat → Int32 → aSt → Option (aSt)
  | 0 => fun _ _ => none
  | n + 1 => X3_build_30_b15 N (X3_build_30_l15 N n)
theorem X3_build_30_l15_ok {C : aC} {N : Nat} (hC : aCx C M_X3_build) {r : aSt} (hF : aFin C none LAY r 0 0) : ∀ (n : Nat) (v1 : Int32) (S : aSt), X3_build_30_l15 N n v1 S = (some r) → aX C M_X3_build 0 0 (15, [(0, .ref 30), (1, .int v1)], [], LAY, S)
  | 0, _, _,  h => nomatch (show (none : Option (aSt)) = some _ from h)
  | n + 1, v1, S,  h => X3_build_30_b15_ok hC hF (fun v1 S h => X3_build_30_l15_ok hC hF n v1 S h) v1 S h
def X3_build_30 (N : Nat) (S : aSt) : Option (aSt) := (Option.bind (J7_fill_53178_31 N (0 : Int32) (aI S 30 0 (0 : Int32))) (fun w1 => (X3_build_30_l15 N N (0 : Int32) w1)))
set_option maxHeartbeats 4000000 in
set_option maxRecDepth 100000 in
theorem J_X3_build_30 (l : Launch) (g : aWg) (N : Nat) (S : aSt) {r : aSt} (hf : X3_build_30 N S = (some r)) : aJ l g yX3_build M_X3_build [.ref 30] LAY S none LAY r 0 0 := by
  refine aJ_of (by decide +kernel) rfl (Nat.le_of_ble_eq_true rfl) (fun h => nomatch h) ?_
  intro C hg hl hC hz hF
  subst hg; subst hl
  have hT := ok_X3_build
  unfold X3_build_30 at hf
  show aX C M_X3_build 0 0 (0, [(0, .ref 30)], [], LAY, S)
  refine aRun_ok hC hT 6 (cf' := (10, [(0, .ref 30)], [.int (0 : Int32), .ref 31], LAY, (aI S 30 0 (0 : Int32)))) (by rfl) ?_
  obtain ⟨w1, ew2, hf⟩ := aBnE hf
  refine aCallS (As := [.ref 31, .int (0 : Int32)]) (rest := []) hC hT rfl k_X3_build_43.1 _ k_X3_build_43.2 (by rfl) (Nat.le_of_ble_eq_true rfl) (by decide) (J_J7_fill_53178_31 C.2.2.1 C.1 N (0 : Int32) (aI S 30 0 (0 : Int32)) ew2) ?_
  refine aRun_ok hC hT 2 (cf' := (15, [(1, .int (0 : Int32)), (0, .ref 30)], [], LAY, w1)) (by rfl) ?_
  refine aLocs [1, 0] (lv' := [(0, .ref 30), (1, .int (0 : Int32))]) rfl ?_
  exact X3_build_30_l15_ok hC hF N (0 : Int32) w1 hf
def J7_fill_53178_35_b5 (N : Nat) (rec5 : Int32 → Int32 → Int32 → aSt → Option (aSt)) (v1 : Int32) (v2 : Int32) (v3 : Int32) (S : aSt) : Option (aSt) := (if v3 ≤ v2 then some (S) else (if aIx v2 30 = true then (rec5 v1 (v2 + (1 : Int32)) v3 (aA S 35 (upd (S.2.2 35) v2.toNatClampNeg v1))) else none))
set_option maxHeartbeats 4000000 in
set_option maxRecDepth 100000 in
theorem J7_fill_53178_35_b5_ok {C : aC} {N : Nat} {rec5 : Int32 → Int32 → Int32 → aSt → Option (aSt)} (hC : aCx C M_J7_fill_53178) {r : aSt} (hF : aFin C none LAY r 0 0) (hrec5 : ∀ (v1 : Int32) (v2 : Int32) (v3 : Int32) (S : aSt), rec5 v1 v2 v3 S = (some r) → aX C M_J7_fill_53178 0 0 (5, [(0, .ref 35), (1, .int v1), (2, .int v2), (3, .int v3)], [], LAY, S)) (v1 : Int32) (v2 : Int32) (v3 : Int32) (S : aSt) (hf : J7_fill_53178_35_b5 N rec5 v1 v2 v3 S = (some r)) : aX C M_J7_fill_53178 0 0 (5, [(0, .ref 35), (1, .int v1), (2, .int v2), (3, .int v3)], [], LAY, S) := by
  have hT := ok_J7_fill_53178
  unfold J7_fill_53178_35_b5 at hf
  refine aRun_ok hC hT 2 (cf' := (7, [(0, .ref 35), (1, .int v1), (2, .int v2), (3, .int v3)], [.int v3, .int v2], LAY, S)) (by rfl) ?_
  refine aCmp_ge hC hT (tgt := 20) rfl (by decide) (fun hc1 => ?_) (fun hc1 => ?_)
  · have hf := aIfT hf hc1
    have e9 := Option.some.inj hf; subst e9
    exact aRetV hC hT hF rfl rfl
  · have hf := aIfF hf hc1
    refine aRun_ok hC hT 3 (cf' := (13, [(0, .ref 35), (1, .int v1), (2, .int v2), (3, .int v3)], [.int v1, .int v2, .ref 35], LAY, S)) (by rfl) ?_
    obtain ⟨hin2, hf⟩ := aGdE hf
    refine aIast hC hT rfl (by decide) (by rfl) hin2 ?_
    refine aRun_ok hC hT 2 (cf' := (5, [(2, .int (v2 + (1 : Int32))), (0, .ref 35), (1, .int v1), (3, .int v3)], [], LAY, (aA S 35 (upd (S.2.2 35) v2.toNatClampNeg v1)))) (by rfl) ?_
    refine aLocs [1, 2, 0, 3] (lv' := [(0, .ref 35), (1, .int v1), (2, .int (v2 + (1 : Int32))), (3, .int v3)]) rfl ?_
    exact hrec5 v1 (v2 + (1 : Int32)) v3 (aA S 35 (upd (S.2.2 35) v2.toNatClampNeg v1)) hf
def J7_fill_53178_35_l5 (N : Nat) : Nat → Int32 → Int32 → Int32 → aSt → Option (aSt)
  | 0 => fun _ _ _ _ => none
  | n + 1 => J7_fill_53178_35_b5 N (J7_fill_53178_35_l5 N n)
theorem J7_fill_53178_35_l5_ok {C : aC} {N : Nat} (hC : aCx C M_J7_fill_53178) {r : aSt} (hF : aFin C none LAY r 0 0) : ∀ (n : Nat) (v1 : Int32) (v2 : Int32) (v3 : Int32) (S : aSt), J7_fill_53178_35_l5 N n v1 v2 v3 S = (some r) → aX C M_J7_fill_53178 0 0 (5, [(0, .ref 35), (1, .int v1), (2, .int v2), (3, .int v3)], [], LAY, S)
  | 0, _, _, _, _,  h => nomatch (show (none : Option (aSt)) = some _ from h)
  | n + 1, v1, v2, v3, S,  h => J7_fill_53178_35_b5_ok hC hF (fun v1 v2 v3 S h => J7_fill_53178_35_l5_ok hC hF n v1 v2 v3 S h) v1 v2 v3 S h
def J7_fill_53178_35 (N : Nat) (a1 : Int32) (S : aSt) : Option (aSt) := (J7_fill_53178_35_l5 N N a1 (0 : Int32) (30 : Int32) S)
set_option maxHeartbeats 4000000 in
set_option maxRecDepth 100000 in
theorem J_J7_fill_53178_35 (l : Launch) (g : aWg) (N : Nat) (a1 : Int32) (S : aSt) {r : aSt} (hf : J7_fill_53178_35 N a1 S = (some r)) : aJ l g yJ7_fill_53178 M_J7_fill_53178 [.ref 35, .int a1] LAY S none LAY r 0 0 := by
  refine aJ_of (by decide +kernel) rfl (Nat.le_of_ble_eq_true rfl) (fun h => nomatch h) ?_
  intro C hg hl hC hz hF
  subst hg; subst hl
  have hT := ok_J7_fill_53178
  unfold J7_fill_53178_35 at hf
  show aX C M_J7_fill_53178 0 0 (0, [(0, .ref 35), (1, .int a1)], [], LAY, S)
  refine aRun_ok hC hT 5 (cf' := (5, [(3, .int (30 : Int32)), (2, .int (0 : Int32)), (0, .ref 35), (1, .int a1)], [], LAY, S)) (by rfl) ?_
  refine aLocs [2, 3, 1, 0] (lv' := [(0, .ref 35), (1, .int a1), (2, .int (0 : Int32)), (3, .int (30 : Int32))]) rfl ?_
  exact J7_fill_53178_35_l5_ok hC hF N a1 (0 : Int32) (30 : Int32) S hf
def X6_at_37 (a1 : Int32) (S : aSt) : Int32 := (if a1 < (0 : Int32) then (0 : Int32) else (if (30 : Int32) ≤ a1 then (0 : Int32) else ((S.2.2 37) a1.toNatClampNeg)))
set_option maxHeartbeats 4000000 in
set_option maxRecDepth 100000 in
theorem J_X6_at_37 (l : Launch) (g : aWg) (a1 : Int32) (S : aSt) {r : Int32} (hf : X6_at_37 a1 S = r) : aJ l g yX6_at M_X6_at [.ref 37, .int a1] LAY S (some (.int r)) LAY S 0 0 := by
  refine aJ_of (by decide +kernel) rfl (Nat.le_of_ble_eq_true rfl) (fun h => nomatch h) ?_
  intro C hg hl hC hz hF
  subst hg; subst hl
  have hT := ok_X6_at
  unfold X6_at_37 at hf
  show aX C M_X6_at 0 0 (0, [(0, .ref 37), (1, .int a1)], [], LAY, S)
  refine aRun_ok hC hT 1 (cf' := (1, [(0, .ref 37), (1, .int a1)], [.int a1], LAY, S)) (by rfl) ?_
  refine aIf_lt hC hT (tgt := 16) rfl (by decide) (fun hc1 => ?_) (fun hc1 => ?_)
  · have hf := aIfT hf hc1
    refine aRun_ok hC hT 1 (cf' := (17, [(0, .ref 37), (1, .int a1)], [.int (0 : Int32)], LAY, S)) (by rfl) ?_
    subst hf
    exact aRetI hC hT hF rfl rfl
  · have hf := aIfF hf hc1
    refine aRun_ok hC hT 3 (cf' := (7, [(0, .ref 37), (1, .int a1)], [.int (30 : Int32), .int a1], LAY, S)) (by rfl) ?_
    refine aCmp_ge hC hT (tgt := 16) rfl (by decide) (fun hc2 => ?_) (fun hc2 => ?_)
    · have hf := aIfT hf hc2
      refine aRun_ok hC hT 1 (cf' := (17, [(0, .ref 37), (1, .int a1)], [.int (0 : Int32)], LAY, S)) (by rfl) ?_
      subst hf
      exact aRetI hC hT hF rfl rfl
    · have hf := aIfF hf hc2
      refine aRun_ok hC hT 2 (cf' := (12, [(0, .ref 37), (1, .int a1)], [.int a1, .ref 37], LAY, S)) (by rfl) ?_
      refine aIald hC hT rfl (by decide) (by rfl) (aIx_of hc1 hc2 (by decide)) ?_
      refine aRun_ok hC hT 1 (cf' := (17, [(0, .ref 37), (1, .int a1)], [.int ((S.2.2 37) a1.toNatClampNeg)], LAY, S)) (by rfl) ?_
      subst hf
      exact aRetI hC hT hF rfl rfl
def X3_entryAt_34 (a1 : Int32) (S : aSt) : Int32 := (aLet (X6_at_37 a1 S) (fun w1 => w1))
set_option maxHeartbeats 4000000 in
set_option maxRecDepth 100000 in
theorem J_X3_entryAt_34 (l : Launch) (g : aWg) (a1 : Int32) (S : aSt) {r : Int32} (hf : X3_entryAt_34 a1 S = r) : aJ l g yX3_entryAt M_X3_entryAt [.ref 34, .int a1] LAY S (some (.int r)) LAY S 0 0 := by
  refine aJ_of (by decide +kernel) rfl (Nat.le_of_ble_eq_true rfl) (fun h => nomatch h) ?_
  intro C hg hl hC hz hF
  subst hg; subst hl
  have hT := ok_X3_entryAt
  unfold X3_entryAt_34 at hf
  show aX C M_X3_entryAt 0 0 (0, [(0, .ref 34), (1, .int a1)], [], LAY, S)
  refine aRun_ok hC hT 3 (cf' := (5, [(0, .ref 34), (1, .int a1)], [.int a1, .ref 37], LAY, S)) (by rfl) ?_
  obtain ⟨w1, ew2, hf⟩ := aLetE hf
  refine aCallS (As := [.ref 37, .int a1]) (rest := []) hC hT rfl k_X3_entryAt_33.1 _ k_X3_entryAt_33.2 (by rfl) (Nat.le_of_ble_eq_true rfl) (by decide) (J_X6_at_37 C.2.2.1 C.1 a1 S ew2) ?_
  subst hf
  exact aRetI hC hT hF rfl rfl
def X6_at_35 (a1 : Int32) (S : aSt) : Int32 := (if a1 < (0 : Int32) then (0 : Int32) else (if (30 : Int32) ≤ a1 then (0 : Int32) else ((S.2.2 35) a1.toNatClampNeg)))
set_option maxHeartbeats 4000000 in
set_option maxRecDepth 100000 in
theorem J_X6_at_35 (l : Launch) (g : aWg) (a1 : Int32) (S : aSt) {r : Int32} (hf : X6_at_35 a1 S = r) : aJ l g yX6_at M_X6_at [.ref 35, .int a1] LAY S (some (.int r)) LAY S 0 0 := by
  refine aJ_of (by decide +kernel) rfl (Nat.le_of_ble_eq_true rfl) (fun h => nomatch h) ?_
  intro C hg hl hC hz hF
  subst hg; subst hl
  have hT := ok_X6_at
  unfold X6_at_35 at hf
  show aX C M_X6_at 0 0 (0, [(0, .ref 35), (1, .int a1)], [], LAY, S)
  refine aRun_ok hC hT 1 (cf' := (1, [(0, .ref 35), (1, .int a1)], [.int a1], LAY, S)) (by rfl) ?_
  refine aIf_lt hC hT (tgt := 16) rfl (by decide) (fun hc1 => ?_) (fun hc1 => ?_)
  · have hf := aIfT hf hc1
    refine aRun_ok hC hT 1 (cf' := (17, [(0, .ref 35), (1, .int a1)], [.int (0 : Int32)], LAY, S)) (by rfl) ?_
    subst hf
    exact aRetI hC hT hF rfl rfl
  · have hf := aIfF hf hc1
    refine aRun_ok hC hT 3 (cf' := (7, [(0, .ref 35), (1, .int a1)], [.int (30 : Int32), .int a1], LAY, S)) (by rfl) ?_
    refine aCmp_ge hC hT (tgt := 16) rfl (by decide) (fun hc2 => ?_) (fun hc2 => ?_)
    · have hf := aIfT hf hc2
      refine aRun_ok hC hT 1 (cf' := (17, [(0, .ref 35), (1, .int a1)], [.int (0 : Int32)], LAY, S)) (by rfl) ?_
      subst hf
      exact aRetI hC hT hF rfl rfl
    · have hf := aIfF hf hc2
      refine aRun_ok hC hT 2 (cf' := (12, [(0, .ref 35), (1, .int a1)], [.int a1, .ref 35], LAY, S)) (by rfl) ?_
      refine aIald hC hT rfl (by decide) (by rfl) (aIx_of hc1 hc2 (by decide)) ?_
      refine aRun_ok hC hT 1 (cf' := (17, [(0, .ref 35), (1, .int a1)], [.int ((S.2.2 35) a1.toNatClampNeg)], LAY, S)) (by rfl) ?_
      subst hf
      exact aRetI hC hT hF rfl rfl
def X6_at_36 (a1 : Int32) (S : aSt) : Int32 := (if a1 < (0 : Int32) then (0 : Int32) else (if (30 : Int32) ≤ a1 then (0 : Int32) else ((S.2.2 36) a1.toNatClampNeg)))
set_option maxHeartbeats 4000000 in
set_option maxRecDepth 100000 in
theorem J_X6_at_36 (l : Launch) (g : aWg) (a1 : Int32) (S : aSt) {r : Int32} (hf : X6_at_36 a1 S = r) : aJ l g yX6_at M_X6_at [.ref 36, .int a1] LAY S (some (.int r)) LAY S 0 0 := by
  refine aJ_of (by decide +kernel) rfl (Nat.le_of_ble_eq_true rfl) (fun h => nomatch h) ?_
  intro C hg hl hC hz hF
  subst hg; subst hl
  have hT := ok_X6_at
  unfold X6_at_36 at hf
  show aX C M_X6_at 0 0 (0, [(0, .ref 36), (1, .int a1)], [], LAY, S)
  refine aRun_ok hC hT 1 (cf' := (1, [(0, .ref 36), (1, .int a1)], [.int a1], LAY, S)) (by rfl) ?_
  refine aIf_lt hC hT (tgt := 16) rfl (by decide) (fun hc1 => ?_) (fun hc1 => ?_)
  · have hf := aIfT hf hc1
    refine aRun_ok hC hT 1 (cf' := (17, [(0, .ref 36), (1, .int a1)], [.int (0 : Int32)], LAY, S)) (by rfl) ?_
    subst hf
    exact aRetI hC hT hF rfl rfl
  · have hf := aIfF hf hc1
    refine aRun_ok hC hT 3 (cf' := (7, [(0, .ref 36), (1, .int a1)], [.int (30 : Int32), .int a1], LAY, S)) (by rfl) ?_
    refine aCmp_ge hC hT (tgt := 16) rfl (by decide) (fun hc2 => ?_) (fun hc2 => ?_)
    · have hf := aIfT hf hc2
      refine aRun_ok hC hT 1 (cf' := (17, [(0, .ref 36), (1, .int a1)], [.int (0 : Int32)], LAY, S)) (by rfl) ?_
      subst hf
      exact aRetI hC hT hF rfl rfl
    · have hf := aIfF hf hc2
      refine aRun_ok hC hT 2 (cf' := (12, [(0, .ref 36), (1, .int a1)], [.int a1, .ref 36], LAY, S)) (by rfl) ?_
      refine aIald hC hT rfl (by decide) (by rfl) (aIx_of hc1 hc2 (by decide)) ?_
      refine aRun_ok hC hT 1 (cf' := (17, [(0, .ref 36), (1, .int a1)], [.int ((S.2.2 36) a1.toNatClampNeg)], LAY, S)) (by rfl) ?_
      subst hf
      exact aRetI hC hT hF rfl rfl
def X3_sumUp_34_b14 (N : Nat) (rec14 : Int64 → Int32 → aSt → Option (aSt)) (v1 : Int64) (v3 : Int32) (S : aSt) : Option (aSt) := (if (S.1 34 0) ≤ v3 then some (S) else (aLet (X3_entryAt_34 v3 S) (fun w2 => (aLet (X6_at_35 w2 S) (fun w4 => (aLet (X6_at_36 w2 S) (fun w6 => (rec14 (v1 + (w6.toInt64)) (v3 + (1 : Int32)) (aL (aL S 34 1 ((S.2.1 34 1) + ((w4.toInt64) * (v1 + (w6.toInt64))))) 34 2 ((S.2.1 34 2) + (w4.toInt64)))))))))))
set_option maxHeartbeats 4000000 in
set_option maxRecDepth 100000 in
theorem X3_sumUp_34_b14_ok {C : aC} {N : Nat} {rec14 : Int64 → Int32 → aSt → Option (aSt)} (hC : aCx C M_X3_sumUp) {r : aSt} (hF : aFin C none LAY r 0 0) (hrec14 : ∀ (v1 : Int64) (v3 : Int32) (S : aSt), rec14 v1 v3 S = (some r) → aX C M_X3_sumUp 0 0 (14, [(0, .ref 34), (1, .long v1), (3, .int v3)], [], LAY, S)) (v1 : Int64) (v3 : Int32) (S : aSt) (hf : X3_sumUp_34_b14 N rec14 v1 v3 S = (some r)) : aX C M_X3_sumUp 0 0 (14, [(0, .ref 34), (1, .long v1), (3, .int v3)], [], LAY, S) := by
  have hT := ok_X3_sumUp
  unfold X3_sumUp_34_b14 at hf
  refine aRun_ok hC hT 3 (cf' := (19, [(0, .ref 34), (1, .long v1), (3, .int v3)], [.int (S.1 34 0), .int v3], LAY, S)) (by rfl) ?_
  refine aCmp_ge hC hT (tgt := 84) rfl (by decide) (fun hc1 => ?_) (fun hc1 => ?_)
  · have hf := aIfT hf hc1
    have e9 := Option.some.inj hf; subst e9
    exact aRetV hC hT hF rfl rfl
  · have hf := aIfF hf hc1
    refine aRun_ok hC hT 2 (cf' := (24, [(0, .ref 34), (1, .long v1), (3, .int v3)], [.int v3, .ref 34], LAY, S)) (by rfl) ?_
    obtain ⟨w2, ew3, hf⟩ := aLetE hf
    refine aCallV (b := 34) (As := [.int v3]) (rest := []) hC hT rfl k_X3_sumUp_101.1 _ _ k_X3_sumUp_101.2 (by decide) (by rfl) (by rfl) (by rfl) (Nat.le_of_ble_eq_true rfl) (by decide) (J_X3_entryAt_34 C.2.2.1 C.1 v3 S ew3) ?_
    refine aRun_ok hC hT 4 (cf' := (35, [(4, .int w2), (0, .ref 34), (1, .long v1), (3, .int v3)], [.int w2, .ref 35], LAY, S)) (by rfl) ?_
    obtain ⟨w4, ew5, hf⟩ := aLetE hf
    refine aCallS (As := [.ref 35, .int w2]) (rest := []) hC hT rfl k_X3_sumUp_33.1 _ k_X3_sumUp_33.2 (by rfl) (Nat.le_of_ble_eq_true rfl) (by decide) (J_X6_at_35 C.2.2.1 C.1 w2 S ew5) ?_
    refine aRun_ok hC hT 6 (cf' := (48, [(5, .long (w4.toInt64)), (4, .int w2), (0, .ref 34), (1, .long v1), (3, .int v3)], [.int w2, .ref 36, .long v1], LAY, S)) (by rfl) ?_
    obtain ⟨w6, ew7, hf⟩ := aLetE hf
    refine aCallS (As := [.ref 36, .int w2]) (rest := [.long v1]) hC hT rfl k_X3_sumUp_33.1 _ k_X3_sumUp_33.2 (by rfl) (Nat.le_of_ble_eq_true rfl) (by decide) (J_X6_at_36 C.2.2.1 C.1 w2 S ew7) ?_
    refine aRun_ok hC hT 19 (cf' := (14, [(3, .int (v3 + (1 : Int32))), (1, .long (v1 + (w6.toInt64))), (5, .long (w4.toInt64)), (4, .int w2), (0, .ref 34)], [], LAY, (aL (aL S 34 1 ((S.2.1 34 1) + ((w4.toInt64) * (v1 + (w6.toInt64))))) 34 2 ((S.2.1 34 2) + (w4.toInt64))))) (by rfl) ?_
    refine aLocs [4, 1, 0] (lv' := [(0, .ref 34), (1, .long (v1 + (w6.toInt64))), (3, .int (v3 + (1 : Int32)))]) rfl ?_
    exact hrec14 (v1 + (w6.toInt64)) (v3 + (1 : Int32)) (aL (aL S 34 1 ((S.2.1 34 1) + ((w4.toInt64) * (v1 + (w6.toInt64))))) 34 2 ((S.2.1 34 2) + (w4.toInt64))) hf
def X3_sumUp_34_l14 (N : Nat) : Nat → Int64 → Int32 → aSt → Option (aSt)
  | 0 => fun _ _ _ => none
  | n + 1 => X3_sumUp_34_b14 N (X3_sumUp_34_l14 N n)
theorem X3_sumUp_34_l14_ok {C : aC} {N : Nat} (hC : aCx C M_X3_sumUp) {r : aSt} (hF : aFin C none LAY r 0 0) : ∀ (n : Nat) (v1 : Int64) (v3 : Int32) (S : aSt), X3_sumUp_34_l14 N n v1 v3 S = (some r) → aX C M_X3_sumUp 0 0 (14, [(0, .ref 34), (1, .long v1), (3, .int v3)], [], LAY, S)
  | 0, _, _, _,  h => nomatch (show (none : Option (aSt)) = some _ from h)
  | n + 1, v1, v3, S,  h => X3_sumUp_34_b14_ok hC hF (fun v1 v3 S h => X3_sumUp_34_l14_ok hC hF n v1 v3 S h) v1 v3 S h
def X3_sumUp_34 (N : Nat) (S : aSt) : Option (aSt) := (X3_sumUp_34_l14 N N (0 : Int64) (0 : Int32) (aL (aL S 34 1 (0 : Int64)) 34 2 (0 : Int64)))
set_option maxHeartbeats 4000000 in
set_option maxRecDepth 100000 in
theorem J_X3_sumUp_34 (l : Launch) (g : aWg) (N : Nat) (S : aSt) {r : aSt} (hf : X3_sumUp_34 N S = (some r)) : aJ l g yX3_sumUp M_X3_sumUp [.ref 34] LAY S none LAY r 0 0 := by
  refine aJ_of (by decide +kernel) rfl (Nat.le_of_ble_eq_true rfl) (fun h => nomatch h) ?_
  intro C hg hl hC hz hF
  subst hg; subst hl
  have hT := ok_X3_sumUp
  unfold X3_sumUp_34 at hf
  show aX C M_X3_sumUp 0 0 (0, [(0, .ref 34)], [], LAY, S)
  refine aRun_ok hC hT 10 (cf' := (14, [(3, .int (0 : Int32)), (1, .long (0 : Int64)), (0, .ref 34)], [], LAY, (aL (aL S 34 1 (0 : Int64)) 34 2 (0 : Int64)))) (by rfl) ?_
  refine aLocs [2, 1, 0] (lv' := [(0, .ref 34), (1, .long (0 : Int64)), (3, .int (0 : Int32))]) rfl ?_
  exact X3_sumUp_34_l14_ok hC hF N (0 : Int64) (0 : Int32) (aL (aL S 34 1 (0 : Int64)) 34 2 (0 : Int64)) hf
def X6_set_36 (a1 : Int32) (a2 : Int32) (S : aSt) : aSt := (if a1 < (0 : Int32) then S else (if (30 : Int32) ≤ a1 then S else (aA S 36 (upd (S.2.2 36) a1.toNatClampNeg a2))))
set_option maxHeartbeats 4000000 in
set_option maxRecDepth 100000 in
theorem J_X6_set_36 (l : Launch) (g : aWg) (a1 : Int32) (a2 : Int32) (S : aSt) {r : aSt} (hf : X6_set_36 a1 a2 S = r) : aJ l g yX6_set M_X6_set [.ref 36, .int a1, .int a2] LAY S none LAY r 0 0 := by
  refine aJ_of (by decide +kernel) rfl (Nat.le_of_ble_eq_true rfl) (fun h => nomatch h) ?_
  intro C hg hl hC hz hF
  subst hg; subst hl
  have hT := ok_X6_set
  unfold X6_set_36 at hf
  show aX C M_X6_set 0 0 (0, [(0, .ref 36), (1, .int a1), (2, .int a2)], [], LAY, S)
  refine aRun_ok hC hT 1 (cf' := (1, [(0, .ref 36), (1, .int a1), (2, .int a2)], [.int a1], LAY, S)) (by rfl) ?_
  refine aIf_lt hC hT (tgt := 14) rfl (by decide) (fun hc1 => ?_) (fun hc1 => ?_)
  · have hf := aIfT hf hc1
    subst hf
    exact aRetV hC hT hF rfl rfl
  · have hf := aIfF hf hc1
    refine aRun_ok hC hT 3 (cf' := (7, [(0, .ref 36), (1, .int a1), (2, .int a2)], [.int (30 : Int32), .int a1], LAY, S)) (by rfl) ?_
    refine aCmp_ge hC hT (tgt := 14) rfl (by decide) (fun hc2 => ?_) (fun hc2 => ?_)
    · have hf := aIfT hf hc2
      subst hf
      exact aRetV hC hT hF rfl rfl
    · have hf := aIfF hf hc2
      refine aRun_ok hC hT 3 (cf' := (13, [(0, .ref 36), (1, .int a1), (2, .int a2)], [.int a2, .int a1, .ref 36], LAY, S)) (by rfl) ?_
      refine aIast hC hT rfl (by decide) (by rfl) (aIx_of hc1 hc2 (by decide)) ?_
      subst hf
      exact aRetV hC hT hF rfl rfl
def X6_set_37 (a1 : Int32) (a2 : Int32) (S : aSt) : aSt := (if a1 < (0 : Int32) then S else (if (30 : Int32) ≤ a1 then S else (aA S 37 (upd (S.2.2 37) a1.toNatClampNeg a2))))
set_option maxHeartbeats 4000000 in
set_option maxRecDepth 100000 in
theorem J_X6_set_37 (l : Launch) (g : aWg) (a1 : Int32) (a2 : Int32) (S : aSt) {r : aSt} (hf : X6_set_37 a1 a2 S = r) : aJ l g yX6_set M_X6_set [.ref 37, .int a1, .int a2] LAY S none LAY r 0 0 := by
  refine aJ_of (by decide +kernel) rfl (Nat.le_of_ble_eq_true rfl) (fun h => nomatch h) ?_
  intro C hg hl hC hz hF
  subst hg; subst hl
  have hT := ok_X6_set
  unfold X6_set_37 at hf
  show aX C M_X6_set 0 0 (0, [(0, .ref 37), (1, .int a1), (2, .int a2)], [], LAY, S)
  refine aRun_ok hC hT 1 (cf' := (1, [(0, .ref 37), (1, .int a1), (2, .int a2)], [.int a1], LAY, S)) (by rfl) ?_
  refine aIf_lt hC hT (tgt := 14) rfl (by decide) (fun hc1 => ?_) (fun hc1 => ?_)
  · have hf := aIfT hf hc1
    subst hf
    exact aRetV hC hT hF rfl rfl
  · have hf := aIfF hf hc1
    refine aRun_ok hC hT 3 (cf' := (7, [(0, .ref 37), (1, .int a1), (2, .int a2)], [.int (30 : Int32), .int a1], LAY, S)) (by rfl) ?_
    refine aCmp_ge hC hT (tgt := 14) rfl (by decide) (fun hc2 => ?_) (fun hc2 => ?_)
    · have hf := aIfT hf hc2
      subst hf
      exact aRetV hC hT hF rfl rfl
    · have hf := aIfF hf hc2
      refine aRun_ok hC hT 3 (cf' := (13, [(0, .ref 37), (1, .int a1), (2, .int a2)], [.int a2, .int a1, .ref 37], LAY, S)) (by rfl) ?_
      refine aIast hC hT rfl (by decide) (by rfl) (aIx_of hc1 hc2 (by decide)) ?_
      subst hf
      exact aRetV hC hT hF rfl rfl
def X3_isSooner_34 (a1 : Int32) (a2 : Int32) (S : aSt) : Int32 := (aLet (X6_at_35 a1 S) (fun w1 => (aLet (X6_at_36 a2 S) (fun w3 => (aLet (X6_at_35 a2 S) (fun w5 => (aLet (X6_at_36 a1 S) (fun w7 => (if (w1 * w3) ≤ (w5 * w7) then (0 : Int32) else (1 : Int32))))))))))
set_option maxHeartbeats 4000000 in
set_option maxRecDepth 100000 in
theorem J_X3_isSooner_34 (l : Launch) (g : aWg) (a1 : Int32) (a2 : Int32) (S : aSt) {r : Int32} (hf : X3_isSooner_34 a1 a2 S = r) : aJ l g yX3_isSooner M_X3_isSooner [.ref 34, .int a1, .int a2] LAY S (some (.int r)) LAY S 0 0 := by
  refine aJ_of (by decide +kernel) rfl (Nat.le_of_ble_eq_true rfl) (fun h => nomatch h) ?_
  intro C hg hl hC hz hF
  subst hg; subst hl
  have hT := ok_X3_isSooner
  unfold X3_isSooner_34 at hf
  show aX C M_X3_isSooner 0 0 (0, [(0, .ref 34), (1, .int a1), (2, .int a2)], [], LAY, S)
  refine aRun_ok hC hT 3 (cf' := (5, [(0, .ref 34), (1, .int a1), (2, .int a2)], [.int a1, .ref 35], LAY, S)) (by rfl) ?_
  obtain ⟨w1, ew2, hf⟩ := aLetE hf
  refine aCallS (As := [.ref 35, .int a1]) (rest := []) hC hT rfl k_X3_isSooner_33.1 _ k_X3_isSooner_33.2 (by rfl) (Nat.le_of_ble_eq_true rfl) (by decide) (J_X6_at_35 C.2.2.1 C.1 a1 S ew2) ?_
  refine aRun_ok hC hT 3 (cf' := (13, [(0, .ref 34), (1, .int a1), (2, .int a2)], [.int a2, .ref 36, .int w1], LAY, S)) (by rfl) ?_
  obtain ⟨w3, ew4, hf⟩ := aLetE hf
  refine aCallS (As := [.ref 36, .int a2]) (rest := [.int w1]) hC hT rfl k_X3_isSooner_33.1 _ k_X3_isSooner_33.2 (by rfl) (Nat.le_of_ble_eq_true rfl) (by decide) (J_X6_at_36 C.2.2.1 C.1 a2 S ew4) ?_
  refine aRun_ok hC hT 4 (cf' := (22, [(0, .ref 34), (1, .int a1), (2, .int a2)], [.int a2, .ref 35, .int (w1 * w3)], LAY, S)) (by rfl) ?_
  obtain ⟨w5, ew6, hf⟩ := aLetE hf
  refine aCallS (As := [.ref 35, .int a2]) (rest := [.int (w1 * w3)]) hC hT rfl k_X3_isSooner_33.1 _ k_X3_isSooner_33.2 (by rfl) (Nat.le_of_ble_eq_true rfl) (by decide) (J_X6_at_35 C.2.2.1 C.1 a2 S ew6) ?_
  refine aRun_ok hC hT 3 (cf' := (30, [(0, .ref 34), (1, .int a1), (2, .int a2)], [.int a1, .ref 36, .int w5, .int (w1 * w3)], LAY, S)) (by rfl) ?_
  obtain ⟨w7, ew8, hf⟩ := aLetE hf
  refine aCallS (As := [.ref 36, .int a1]) (rest := [.int w5, .int (w1 * w3)]) hC hT rfl k_X3_isSooner_33.1 _ k_X3_isSooner_33.2 (by rfl) (Nat.le_of_ble_eq_true rfl) (by decide) (J_X6_at_36 C.2.2.1 C.1 a1 S ew8) ?_
  refine aRun_ok hC hT 1 (cf' := (34, [(0, .ref 34), (1, .int a1), (2, .int a2)], [.int (w5 * w7), .int (w1 * w3)], LAY, S)) (by rfl) ?_
  refine aCmp_le hC hT (tgt := 41) rfl (by decide) (fun hc9 => ?_) (fun hc9 => ?_)
  · have hf := aIfT hf hc9
    refine aRun_ok hC hT 1 (cf' := (42, [(0, .ref 34), (1, .int a1), (2, .int a2)], [.int (0 : Int32)], LAY, S)) (by rfl) ?_
    subst hf
    exact aRetB hC hT hF rfl (Or.inl rfl) rfl
  · have hf := aIfF hf hc9
    refine aRun_ok hC hT 2 (cf' := (42, [(0, .ref 34), (1, .int a1), (2, .int a2)], [.int (1 : Int32)], LAY, S)) (by rfl) ?_
    subst hf
    exact aRetB hC hT hF rfl (Or.inr rfl) rfl
