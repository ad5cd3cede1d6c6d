def X10_look_0_b27 (N : Nat) (v1 : Int32) (S : aSt) : Option (Int32 × aSt) := (if v1 = ((-1) : Int32) then some (((S.1 30 0), S)) else (if (S.1 30 0) ≤ v1 then some ((((-1) : Int32), S)) else (aLet (X3_entryAt_30 v1 S) (fun w7 => some ((w7, S))))))
set_option maxHeartbeats 4000000 in
set_option maxRecDepth 100000 in
theorem X10_look_0_b27_ok {C : aC} {N : Nat} (hC : aCx C M_X10_look) {r : Int32 × aSt} (hF : aFin C (some (.int r.1)) LAY r.2 0 0) (v1 : Int32) (S : aSt) (hf : X10_look_0_b27 N v1 S = (some r)) : aX C M_X10_look 0 0 (27, [(1, .int v1)], [.ref 30], LAY, S) := by
  have hT := ok_X10_look
  unfold X10_look_0_b27 at hf
  refine aRun_ok hC hT 3 (cf' := (30, [(3, .ref 30), (1, .int v1)], [.int ((-1) : Int32), .int v1], LAY, S)) (by rfl) ?_
  refine aCmp_ne hC hT (tgt := 38) rfl (by decide) (fun hc5 => ?_) (fun hc5 => ?_)
  · have hf := aIfF hf hc5
    refine aRun_ok hC hT 3 (cf' := (43, [(3, .ref 30), (1, .int v1)], [.int (S.1 30 0), .int v1], LAY, S)) (by rfl) ?_
    refine aCmp_ge hC hT (tgt := 54) rfl (by decide) (fun hc6 => ?_) (fun hc6 => ?_)
    · have hf := aIfT hf hc6
      refine aRun_ok hC hT 1 (cf' := (55, [(3, .ref 30), (1, .int v1)], [.int ((-1) : Int32)], LAY, S)) (by rfl) ?_
      have e9 := Option.some.inj hf; subst e9
      exact aRetI hC hT hF rfl rfl
    · have hf := aIfF hf hc6
      refine aRun_ok hC hT 2 (cf' := (48, [(3, .ref 30), (1, .int v1)], [.int v1, .ref 30], LAY, S)) (by rfl) ?_
      obtain ⟨w7, ew8, hf⟩ := aLetE hf
      refine aCallV (b := 30) (As := [.int v1]) (rest := []) hC hT rfl k_X10_look_218.1 _ _ k_X10_look_218.2 (by decide) (by rfl) (by rfl) (by rfl) (Nat.le_of_ble_eq_true rfl) (by decide) (J_X3_entryAt_30 C.2.2.1 C.1 v1 S ew8) ?_
      refine aRun_ok hC hT 1 (cf' := (55, [(3, .ref 30), (1, .int v1)], [.int w7], LAY, S)) (by rfl) ?_
      have e9 := Option.some.inj hf; subst e9
      exact aRetI hC hT hF rfl rfl
  · have hf := aIfT hf hc5
    refine aRun_ok hC hT 2 (cf' := (37, [(3, .ref 30), (1, .int v1)], [.int (S.1 30 0)], LAY, S)) (by rfl) ?_
    have e9 := Option.some.inj hf; subst e9
    exact aRetI hC hT hF rfl rfl
def X10_look_0_b27b (N : Nat) (v1 : Int32) (S : aSt) : Option (Int32 × aSt) := (if v1 = ((-1) : Int32) then some (((S.1 34 0), S)) else (if (S.1 34 0) ≤ v1 then some ((((-1) : Int32), S)) else (aLet (X3_entryAt_34 v1 S) (fun w11 => some ((w11, S))))))
set_option maxHeartbeats 4000000 in
set_option maxRecDepth 100000 in
theorem X10_look_0_b27b_ok {C : aC} {N : Nat} (hC : aCx C M_X10_look) {r : Int32 × aSt} (hF : aFin C (some (.int r.1)) LAY r.2 0 0) (v1 : Int32) (S : aSt) (hf : X10_look_0_b27b N v1 S = (some r)) : aX C M_X10_look 0 0 (27, [(1, .int v1)], [.ref 34], LAY, S) := by
  have hT := ok_X10_look
  unfold X10_look_0_b27b at hf
  refine aRun_ok hC hT 3 (cf' := (30, [(3, .ref 34), (1, .int v1)], [.int ((-1) : Int32), .int v1], LAY, S)) (by rfl) ?_
  refine aCmp_ne hC hT (tgt := 38) rfl (by decide) (fun hc9 => ?_) (fun hc9 => ?_)
  · have hf := aIfF hf hc9
    refine aRun_ok hC hT 3 (cf' := (43, [(3, .ref 34), (1, .int v1)], [.int (S.1 34 0), .int v1], LAY, S)) (by rfl) ?_
    refine aCmp_ge hC hT (tgt := 54) rfl (by decide) (fun hc10 => ?_) (fun hc10 => ?_)
    · have hf := aIfT hf hc10
      refine aRun_ok hC hT 1 (cf' := (55, [(3, .ref 34), (1, .int v1)], [.int ((-1) : Int32)], LAY, S)) (by rfl) ?_
      have e9 := Option.some.inj hf; subst e9
      exact aRetI hC hT hF rfl rfl
    · have hf := aIfF hf hc10
      refine aRun_ok hC hT 2 (cf' := (48, [(3, .ref 34), (1, .int v1)], [.int v1, .ref 34], LAY, S)) (by rfl) ?_
      obtain ⟨w11, ew12, hf⟩ := aLetE hf
      refine aCallV (b := 34) (As := [.int v1]) (rest := []) hC hT rfl k_X10_look_218.1 _ _ k_X10_look_218.2 (by decide) (by rfl) (by rfl) (by rfl) (Nat.le_of_ble_eq_true rfl) (by decide) (J_X3_entryAt_34 C.2.2.1 C.1 v1 S ew12) ?_
      refine aRun_ok hC hT 1 (cf' := (55, [(3, .ref 34), (1, .int v1)], [.int w11], LAY, S)) (by rfl) ?_
      have e9 := Option.some.inj hf; subst e9
      exact aRetI hC hT hF rfl rfl
  · have hf := aIfT hf hc9
    refine aRun_ok hC hT 2 (cf' := (37, [(3, .ref 34), (1, .int v1)], [.int (S.1 34 0)], LAY, S)) (by rfl) ?_
    have e9 := Option.some.inj hf; subst e9
    exact aRetI hC hT hF rfl rfl
def X10_look_0 (N : Nat) (a1 : Int32) (a2 : Int32) (S : aSt) : Option (Int32 × aSt) := (if ((-1) : Int32) ≤ a1 then (Option.bind (X10_workOut_0 N S) (fun w2 => (if a2 = (0 : Int32) then (X10_look_0_b27 N a1 w2) else (X10_look_0_b27b N a1 w2)))) else some ((((-3) : Int32), S)))
set_option maxHeartbeats 4000000 in
set_option maxRecDepth 100000 in
theorem J_X10_look_0 (l : Launch) (g : aWg) (N : Nat) (a1 : Int32) (a2 : Int32) (S : aSt) {r : Int32 × aSt} (hf : X10_look_0 N a1 a2 S = (some r)) : aJ l g yX10_look M_X10_look [.ref 0, .int a1, .int a2] LAY S (some (.int r.1)) LAY r.2 0 0 := by
  refine aJ_of (by decide +kernel) rfl (Nat.le_of_ble_eq_true rfl) (fun h => nomatch h) ?_
  intro C hg hl hC hz hF
  subst hg; subst hl
  have hT := ok_X10_look
  unfold X10_look_0 at hf
  show aX C M_X10_look 0 0 (0, [(0, .ref 0), (1, .int a1), (2, .int a2)], [], LAY, S)
  refine aRun_ok hC hT 2 (cf' := (2, [(0, .ref 0), (1, .int a1), (2, .int a2)], [.int ((-1) : Int32), .int a1], LAY, S)) (by rfl) ?_
  refine aCmp_ge hC hT (tgt := 8) rfl (by decide) (fun hc1 => ?_) (fun hc1 => ?_)
  · have hf := aIfT hf hc1
    refine aRun_ok hC hT 1 (cf' := (9, [(0, .ref 0), (1, .int a1), (2, .int a2)], [.ref 0], LAY, S)) (by rfl) ?_
    obtain ⟨w2, ew3, hf⟩ := aBnE hf
    refine aCallV (b := 0) (As := []) (rest := []) hC hT rfl k_X10_look_169.1 _ _ k_X10_look_169.2 (by decide) (by rfl) (by rfl) (by rfl) (Nat.le_of_ble_eq_true rfl) (by decide) (J_X10_workOut_0 C.2.2.1 C.1 N  S ew3) ?_
    refine aRun_ok hC hT 1 (cf' := (13, [(0, .ref 0), (1, .int a1), (2, .int a2)], [.int a2], LAY, w2)) (by rfl) ?_
    refine aIf_eq hC hT (tgt := 23) rfl (by decide) (fun hc4 => ?_) (fun hc4 => ?_)
    · have hf := aIfT hf hc4
      refine aRun_ok hC hT 2 (cf' := (27, [(0, .ref 0), (1, .int a1), (2, .int a2)], [.ref 30], LAY, w2)) (by rfl) ?_
      refine aLocs [1] (lv' := [(1, .int a1)]) rfl ?_
      exact X10_look_0_b27_ok hC hF a1 w2 hf
    · have hf := aIfF hf hc4
      refine aRun_ok hC hT 3 (cf' := (27, [(0, .ref 0), (1, .int a1), (2, .int a2)], [.ref 34], LAY, w2)) (by rfl) ?_
      refine aLocs [1] (lv' := [(1, .int a1)]) rfl ?_
      exact X10_look_0_b27b_ok hC hF a1 w2 hf
  · have hf := aIfF hf hc1
    refine aRun_ok hC hT 1 (cf' := (7, [(0, .ref 0), (1, .int a1), (2, .int a2)], [.int ((-3) : Int32)], LAY, S)) (by rfl) ?_
    have e9 := Option.some.inj hf; subst e9
    exact aRetI hC hT hF rfl rfl
def X6_set_40 (a1 : Int32) (a2 : Int32) (S : aSt) : aSt := (if a1 < (0 : Int32) then S else (if (169 : Int32) ≤ a1 then S else (aA S 40 (upd (S.2.2 40) a1.toNatClampNeg a2))))
set_option maxHeartbeats 4000000 in
set_option maxRecDepth 100000 in
theorem J_X6_set_40 (l : Launch) (g : aWg) (a1 : Int32) (a2 : Int32) (S : aSt) {r : aSt} (hf : X6_set_40 a1 a2 S = r) : aJ l g yX6_set M_X6_set [.ref 40, .int a1, .int a2] LAY S none LAY r 0 0 := by
  refine aJ_of (by decide +kernel) rfl (Nat.le_of_ble_eq_true rfl) (fun h => nomatch h) ?_
  intro C hg hl hC hz hF
  subst hg; subst hl
  have hT := ok_X6_set
  unfold X6_set_40 at hf
  show aX C M_X6_set 0 0 (0, [(0, .ref 40), (1, .int a1), (2, .int a2)], [], LAY, S)
  refine aRun_ok hC hT 1 (cf' := (1, [(0, .ref 40), (1, .int a1), (2, .int a2)], [.int a1], LAY, S)) (by rfl) ?_
  refine aIf_lt hC hT (tgt := 14) rfl (by decide) (fun hc1 => ?_) (fun hc1 => ?_)
  · have hf := aIfT hf hc1
    subst hf
    exact aRetV hC hT hF rfl rfl
  · have hf := aIfF hf hc1
    refine aRun_ok hC hT 3 (cf' := (7, [(0, .ref 40), (1, .int a1), (2, .int a2)], [.int (169 : Int32), .int a1], LAY, S)) (by rfl) ?_
    refine aCmp_ge hC hT (tgt := 14) rfl (by decide) (fun hc2 => ?_) (fun hc2 => ?_)
    · have hf := aIfT hf hc2
      subst hf
      exact aRetV hC hT hF rfl rfl
    · have hf := aIfF hf hc2
      refine aRun_ok hC hT 3 (cf' := (13, [(0, .ref 40), (1, .int a1), (2, .int a2)], [.int a2, .int a1, .ref 40], LAY, S)) (by rfl) ?_
      refine aIast hC hT rfl (by decide) (by rfl) (aIx_of hc1 hc2 (by decide)) ?_
      subst hf
      exact aRetV hC hT hF rfl rfl
def X6_at_39 (a1 : Int32) (S : aSt) : Int32 := (if a1 < (0 : Int32) then (0 : Int32) else (if (12 : Int32) ≤ a1 then (0 : Int32) else ((S.2.2 39) a1.toNatClampNeg)))
set_option maxHeartbeats 4000000 in
set_option maxRecDepth 100000 in
theorem J_X6_at_39 (l : Launch) (g : aWg) (a1 : Int32) (S : aSt) {r : Int32} (hf : X6_at_39 a1 S = r) : aJ l g yX6_at M_X6_at [.ref 39, .int a1] LAY S (some (.int r)) LAY S 0 0 := by
  refine aJ_of (by decide +kernel) rfl (Nat.le_of_ble_eq_true rfl) (fun h => nomatch h) ?_
  intro C hg hl hC hz hF
  subst hg; subst hl
  have hT := ok_X6_at
  unfold X6_at_39 at hf
  show aX C M_X6_at 0 0 (0, [(0, .ref 39), (1, .int a1)], [], LAY, S)
  refine aRun_ok hC hT 1 (cf' := (1, [(0, .ref 39), (1, .int a1)], [.int a1], LAY, S)) (by rfl) ?_
  refine aIf_lt hC hT (tgt := 16) rfl (by decide) (fun hc1 => ?_) (fun hc1 => ?_)
  · have hf := aIfT hf hc1
    refine aRun_ok hC hT 1 (cf' := (17, [(0, .ref 39), (1, .int a1)], [.int (0 : Int32)], LAY, S)) (by rfl) ?_
    subst hf
    exact aRetI hC hT hF rfl rfl
  · have hf := aIfF hf hc1
    refine aRun_ok hC hT 3 (cf' := (7, [(0, .ref 39), (1, .int a1)], [.int (12 : Int32), .int a1], LAY, S)) (by rfl) ?_
    refine aCmp_ge hC hT (tgt := 16) rfl (by decide) (fun hc2 => ?_) (fun hc2 => ?_)
    · have hf := aIfT hf hc2
      refine aRun_ok hC hT 1 (cf' := (17, [(0, .ref 39), (1, .int a1)], [.int (0 : Int32)], LAY, S)) (by rfl) ?_
      subst hf
      exact aRetI hC hT hF rfl rfl
    · have hf := aIfF hf hc2
      refine aRun_ok hC hT 2 (cf' := (12, [(0, .ref 39), (1, .int a1)], [.int a1, .ref 39], LAY, S)) (by rfl) ?_
      refine aIald hC hT rfl (by decide) (by rfl) (aIx_of hc1 hc2 (by decide)) ?_
      refine aRun_ok hC hT 1 (cf' := (17, [(0, .ref 39), (1, .int a1)], [.int ((S.2.2 39) a1.toNatClampNeg)], LAY, S)) (by rfl) ?_
      subst hf
      exact aRetI hC hT hF rfl rfl
def X4_pairCost (N : Nat) (a0 : Int32) (a1 : Int32) : Option (Int32) := (if a0 = a1 then some ((0 : Int32)) else (Option.bind (X0_kindBetween N a0 a1) (fun w2 => (if w2 = ((-1) : Int32) then some ((100 : Int32)) else some ((1 : Int32))))))
set_option maxHeartbeats 4000000 in
set_option maxRecDepth 100000 in
theorem J_X4_pairCost (l : Launch) (g : aWg) (N : Nat) (a0 : Int32) (a1 : Int32) (S : aSt) {r : Int32} (hf : X4_pairCost N a0 a1 = (some r)) : aJ l g yX4_pairCost M_X4_pairCost [.int a0, .int a1] LAY S (some (.int r)) LAY S 0 0 := by
  refine aJ_of (by decide +kernel) rfl (Nat.le_of_ble_eq_true rfl) (fun h => nomatch h) ?_
  intro C hg hl hC hz hF
  subst hg; subst hl
  have hT := ok_X4_pairCost
  unfold X4_pairCost at hf
  show aX C M_X4_pairCost 0 0 (0, [(0, .int a0), (1, .int a1)], [], LAY, S)
  refine aRun_ok hC hT 2 (cf' := (2, [(0, .int a0), (1, .int a1)], [.int a1, .int a0], LAY, S)) (by rfl) ?_
  refine aCmp_ne hC hT (tgt := 7) rfl (by decide) (fun hc1 => ?_) (fun hc1 => ?_)
  · have hf := aIfF hf hc1
    refine aRun_ok hC hT 2 (cf' := (9, [(0, .int a0), (1, .int a1)], [.int a1, .int a0], LAY, S)) (by rfl) ?_
    obtain ⟨w2, ew3, hf⟩ := aBnE hf
    refine aCallS (As := [.int a0, .int a1]) (rest := []) hC hT rfl k_X4_pairCost_59.1 _ k_X4_pairCost_59.2 (by rfl) (Nat.le_of_ble_eq_true rfl) (by decide) (J_X0_kindBetween C.2.2.1 C.1 N a0 a1 S ew3) ?_
    refine aRun_ok hC hT 1 (cf' := (13, [(0, .int a0), (1, .int a1)], [.int ((-1) : Int32), .int w2], LAY, S)) (by rfl) ?_
    refine aCmp_ne hC hT (tgt := 21) rfl (by decide) (fun hc4 => ?_) (fun hc4 => ?_)
    · have hf := aIfF hf hc4
      refine aRun_ok hC hT 1 (cf' := (22, [(0, .int a0), (1, .int a1)], [.int (1 : Int32)], LAY, S)) (by rfl) ?_
      have e9 := Option.some.inj hf; subst e9
      exact aRetI hC hT hF rfl rfl
    · have hf := aIfT hf hc4
      refine aRun_ok hC hT 2 (cf' := (22, [(0, .int a0), (1, .int a1)], [.int (100 : Int32)], LAY, S)) (by rfl) ?_
      have e9 := Option.some.inj hf; subst e9
      exact aRetI hC hT hF rfl rfl
  · have hf := aIfT hf hc1
    refine aRun_ok hC hT 1 (cf' := (6, [(0, .int a0), (1, .int a1)], [.int (0 : Int32)], LAY, S)) (by rfl) ?_
    have e9 := Option.some.inj hf; subst e9
    exact aRetI hC hT hF rfl rfl
def X6_set_41 (a1 : Int32) (a2 : Int32) (S : aSt) : aSt := (if a1 < (0 : Int32) then S else (if (169 : Int32) ≤ a1 then S else (aA S 41 (upd (S.2.2 41) a1.toNatClampNeg a2))))
set_option maxHeartbeats 4000000 in
set_option maxRecDepth 100000 in
theorem J_X6_set_41 (l : Launch) (g : aWg) (a1 : Int32) (a2 : Int32) (S : aSt) {r : aSt} (hf : X6_set_41 a1 a2 S = r) : aJ l g yX6_set M_X6_set [.ref 41, .int a1, .int a2] LAY S none LAY r 0 0 := by
  refine aJ_of (by decide +kernel) rfl (Nat.le_of_ble_eq_true rfl) (fun h => nomatch h) ?_
  intro C hg hl hC hz hF
  subst hg; subst hl
  have hT := ok_X6_set
  unfold X6_set_41 at hf
  show aX C M_X6_set 0 0 (0, [(0, .ref 41), (1, .int a1), (2, .int a2)], [], LAY, S)
  refine aRun_ok hC hT 1 (cf' := (1, [(0, .ref 41), (1, .int a1), (2, .int a2)], [.int a1], LAY, S)) (by rfl) ?_
  refine aIf_lt hC hT (tgt := 14) rfl (by decide) (fun hc1 => ?_) (fun hc1 => ?_)
  · have hf := aIfT hf hc1
    subst hf
    exact aRetV hC hT hF rfl rfl
  · have hf := aIfF hf hc1
    refine aRun_ok hC hT 3 (cf' := (7, [(0, .ref 41), (1, .int a1), (2, .int a2)], [.int (169 : Int32), .int a1], LAY, S)) (by rfl) ?_
    refine aCmp_ge hC hT (tgt := 14) rfl (by decide) (fun hc2 => ?_) (fun hc2 => ?_)
    · have hf := aIfT hf hc2
      subst hf
      exact aRetV hC hT hF rfl rfl
    · have hf := aIfF hf hc2
      refine aRun_ok hC hT 3 (cf' := (13, [(0, .ref 41), (1, .int a1), (2, .int a2)], [.int a2, .int a1, .ref 41], LAY, S)) (by rfl) ?_
      refine aIast hC hT rfl (by decide) (by rfl) (aIx_of hc1 hc2 (by decide)) ?_
      subst hf
      exact aRetV hC hT hF rfl rfl
def X6_at_40 (a1 : Int32) (S : aSt) : Int32 := (if a1 < (0 : Int32) then (0 : Int32) else (if (169 : Int32) ≤ a1 then (0 : Int32) else ((S.2.2 40) a1.toNatClampNeg)))
set_option maxHeartbeats 4000000 in
set_option maxRecDepth 100000 in
theorem J_X6_at_40 (l : Launch) (g : aWg) (a1 : Int32) (S : aSt) {r : Int32} (hf : X6_at_40 a1 S = r) : aJ l g yX6_at M_X6_at [.ref 40, .int a1] LAY S (some (.int r)) LAY S 0 0 := by
  refine aJ_of (by decide +kernel) rfl (Nat.le_of_ble_eq_true rfl) (fun h => nomatch h) ?_
  intro C hg hl hC hz hF
  subst hg; subst hl
  have hT := ok_X6_at
  unfold X6_at_40 at hf
  show aX C M_X6_at 0 0 (0, [(0, .ref 40), (1, .int a1)], [], LAY, S)
  refine aRun_ok hC hT 1 (cf' := (1, [(0, .ref 40), (1, .int a1)], [.int a1], LAY, S)) (by rfl) ?_
  refine aIf_lt hC hT (tgt := 16) rfl (by decide) (fun hc1 => ?_) (fun hc1 => ?_)
  · have hf := aIfT hf hc1
    refine aRun_ok hC hT 1 (cf' := (17, [(0, .ref 40), (1, .int a1)], [.int (0 : Int32)], LAY, S)) (by rfl) ?_
    subst hf
    exact aRetI hC hT hF rfl rfl
  · have hf := aIfF hf hc1
    refine aRun_ok hC hT 3 (cf' := (7, [(0, .ref 40), (1, .int a1)], [.int (169 : Int32), .int a1], LAY, S)) (by rfl) ?_
    refine aCmp_ge hC hT (tgt := 16) rfl (by decide) (fun hc2 => ?_) (fun hc2 => ?_)
    · have hf := aIfT hf hc2
      refine aRun_ok hC hT 1 (cf' := (17, [(0, .ref 40), (1, .int a1)], [.int (0 : Int32)], LAY, S)) (by rfl) ?_
      subst hf
      exact aRetI hC hT hF rfl rfl
    · have hf := aIfF hf hc2
      refine aRun_ok hC hT 2 (cf' := (12, [(0, .ref 40), (1, .int a1)], [.int a1, .ref 40], LAY, S)) (by rfl) ?_
      refine aIald hC hT rfl (by decide) (by rfl) (aIx_of hc1 hc2 (by decide)) ?_
      refine aRun_ok hC hT 1 (cf' := (17, [(0, .ref 40), (1, .int a1)], [.int ((S.2.2 40) a1.toNatClampNeg)], LAY, S)) (by rfl) ?_
      subst hf
      exact aRetI hC hT hF rfl rfl
def X4_costFrom_38 (a1 : Int32) (a2 : Int32) (S : aSt) : Int32 := (aLet (X6_at_40 ((a1 * (13 : Int32)) + a2) S) (fun w1 => w1))
set_option maxHeartbeats 4000000 in
set_option maxRecDepth 100000 in
theorem J_X4_costFrom_38 (l : Launch) (g : aWg) (a1 : Int32) (a2 : Int32) (S : aSt) {r : Int32} (hf : X4_costFrom_38 a1 a2 S = r) : aJ l g yX4_costFrom M_X4_costFrom [.ref 38, .int a1, .int a2] LAY S (some (.int r)) LAY S 0 0 := by
  refine aJ_of (by decide +kernel) rfl (Nat.le_of_ble_eq_true rfl) (fun h => nomatch h) ?_
  intro C hg hl hC hz hF
  subst hg; subst hl
  have hT := ok_X4_costFrom
  unfold X4_costFrom_38 at hf
  show aX C M_X4_costFrom 0 0 (0, [(0, .ref 38), (1, .int a1), (2, .int a2)], [], LAY, S)
  refine aRun_ok hC hT 7 (cf' := (10, [(0, .ref 38), (1, .int a1), (2, .int a2)], [.int ((a1 * (13 : Int32)) + a2), .ref 40], LAY, S)) (by rfl) ?_
  obtain ⟨w1, ew2, hf⟩ := aLetE hf
  refine aCallS (As := [.ref 40, .int ((a1 * (13 : Int32)) + a2)]) (rest := []) hC hT rfl k_X4_costFrom_44.1 _ k_X4_costFrom_44.2 (by rfl) (Nat.le_of_ble_eq_true rfl) (by decide) (J_X6_at_40 C.2.2.1 C.1 ((a1 * (13 : Int32)) + a2) S ew2) ?_
  subst hf
  exact aRetI hC hT hF rfl rfl
def X4_findLeastCosts_38_b139 (N : Nat) (rec2 : Int32 → Int32 → aSt → Option (aSt)) (v1 : Int32) (v2 : Int32) (S : aSt) : Option (aSt) := (rec2 v1 (v2 + ((-1) : Int32)) S)
set_option maxHeartbeats 4000000 in
set_option maxRecDepth 100000 in
theorem X4_findLeastCosts_38_b139_ok {C : aC} {N : Nat} {rec2 : Int32 → Int32 → aSt → Option (aSt)} (hC : aCx C M_X4_findLeastCosts) {r : aSt} (hF : aFin C none LAY r 0 0) (hrec2 : ∀ (v1 : Int32) (v2 : Int32) (S : aSt), rec2 v1 v2 S = (some r) → aX C M_X4_findLeastCosts 0 0 (2, [(0, .ref 38), (1, .int v1), (2, .int v2)], [], LAY, S)) (v1 : Int32) (v2 : Int32) (S : aSt) (hf : X4_findLeastCosts_38_b139 N rec2 v1 v2 S = (some r)) : aX C M_X4_findLeastCosts 0 0 (139, [(0, .ref 38), (1, .int v1), (2, .int v2)], [], LAY, S) := by
  have hT := ok_X4_findLeastCosts
  unfold X4_findLeastCosts_38_b139 at hf
  refine aRun_ok hC hT 2 (cf' := (2, [(2, .int (v2 + ((-1) : Int32))), (0, .ref 38), (1, .int v1)], [], LAY, S)) (by rfl) ?_
  refine aLocs [1, 2, 0] (lv' := [(0, .ref 38), (1, .int v1), (2, .int (v2 + ((-1) : Int32)))]) rfl ?_
  exact hrec2 v1 (v2 + ((-1) : Int32)) S hf
def X4_findLeastCosts_38_b118 (N : Nat) (rec2 : Int32 → Int32 → aSt → Option (aSt)) (rec11 : Int32 → Int32 → Int32 → aSt → Option (aSt)) (v1 : Int32) (v2 : Int32) (v3 : Int32) (v4 : Int32) (S : aSt) : Option (aSt) := (aLet (X6_set_40 ((v2 * (13 : Int32)) + v3) v4 S) (fun w4 => (rec11 v1 v2 (v3 + ((-1) : Int32)) w4)))
set_option maxHeartbeats 4000000 in
set_option maxRecDepth 100000 in
theorem X4_findLeastCosts_38_b118_ok {C : aC} {N : Nat} {rec2 : Int32 → Int32 → aSt → Option (aSt)} {rec11 : Int32 → Int32 → Int32 → aSt → Option (aSt)} (hC : aCx C M_X4_findLeastCosts) {r : aSt} (hF : aFin C none LAY r 0 0) (hrec2 : ∀ (v1 : Int32) (v2 : Int32) (S : aSt), rec2 v1 v2 S = (some r) → aX C M_X4_findLeastCosts 0 0 (2, [(0, .ref 38), (1, .int v1), (2, .int v2)], [], LAY, S)) (hrec11 : ∀ (v1 : Int32) (v2 : Int32) (v3 : Int32) (S : aSt), rec11 v1 v2 v3 S = (some r) → aX C M_X4_findLeastCosts 0 0 (11, [(0, .ref 38), (1, .int v1), (2, .int v2), (3, .int v3)], [], LAY, S)) (v1 : Int32) (v2 : Int32) (v3 : Int32) (v4 : Int32) (S : aSt) (hf : X4_findLeastCosts_38_b118 N rec2 rec11 v1 v2 v3 v4 S = (some r)) : aX C M_X4_findLeastCosts 0 0 (118, [(0, .ref 38), (1, .int v1), (2, .int v2), (3, .int v3), (4, .int v4)], [], LAY, S) := by
  have hT := ok_X4_findLeastCosts
  unfold X4_findLeastCosts_38_b118 at hf
  refine aRun_ok hC hT 8 (cf' := (130, [(0, .ref 38), (1, .int v1), (2, .int v2), (3, .int v3), (4, .int v4)], [.int v4, .int ((v2 * (13 : Int32)) + v3), .ref 40], LAY, S)) (by rfl) ?_
  obtain ⟨w4, ew5, hf⟩ := aLetE hf
  refine aCallS (As := [.ref 40, .int ((v2 * (13 : Int32)) + v3), .int v4]) (rest := []) hC hT rfl k_X4_findLeastCosts_29.1 _ k_X4_findLeastCosts_29.2 (by rfl) (Nat.le_of_ble_eq_true rfl) (by decide) (J_X6_set_40 C.2.2.1 C.1 ((v2 * (13 : Int32)) + v3) v4 S ew5) ?_
  refine aRun_ok hC hT 2 (cf' := (11, [(3, .int (v3 + ((-1) : Int32))), (0, .ref 38), (1, .int v1), (2, .int v2), (4, .int v4)], [], LAY, w4)) (by rfl) ?_
  refine aLocs [1, 2, 3, 0] (lv' := [(0, .ref 38), (1, .int v1), (2, .int v2), (3, .int (v3 + ((-1) : Int32)))]) rfl ?_
  exact hrec11 v1 v2 (v3 + ((-1) : Int32)) w4 hf
def X4_findLeastCosts_38_b11 (N : Nat) (rec2 : Int32 → Int32 → aSt → Option (aSt)) (rec11 : Int32 → Int32 → Int32 → aSt → Option (aSt)) (v1 : Int32) (v2 : Int32) (v3 : Int32) (S : aSt) : Option (aSt) := (if v3 < (0 : Int32) then (X4_findLeastCosts_38_b139 N rec2 v1 v2 S) else (if v1 ≤ v2 then (X4_findLeastCosts_38_b118 N rec2 rec11 v1 v2 v3 ((1 : Int32) * (((v1 - v2) + (S.1 38 0)) - v3)) S) else (if (S.1 38 0) ≤ v3 then (X4_findLeastCosts_38_b118 N rec2 rec11 v1 v2 v3 ((1 : Int32) * (((v1 - v2) + (S.1 38 0)) - v3)) S) else (aLet (X2_told_8 v2 (1 : Int32) S) (fun w7 => (aLet (X6_at_39 v3 S) (fun w9 => (Option.bind (X4_pairCost N w7 w9) (fun w11 => (aLet (X6_set_41 ((v2 * (13 : Int32)) + v3) w11 S) (fun w13 => (aLet (X4_costFrom_38 (v2 + (1 : Int32)) (v3 + (1 : Int32)) w13) (fun w15 => (aLet (X4_costFrom_38 (v2 + (1 : Int32)) v3 w13) (fun w17 => (aLet (X4_costFrom_38 v2 (v3 + (1 : Int32)) w13) (fun w19 => (aLet (J9_min_7cf53 w17 w19) (fun w21 => (aLet (J9_min_7cf53 (w11 + w15) ((1 : Int32) + w21)) (fun w23 => (X4_findLeastCosts_38_b118 N rec2 rec11 v1 v2 v3 w23 w13))))))))))))))))))))))
set_option maxHeartbeats 4000000 in
set_option maxRecDepth 100000 in
theorem X4_findLeastCosts_38_b11_ok {C : aC} {N : Nat} {rec2 : Int32 → Int32 → aSt → Option (aSt)} {rec11 : Int32 → Int32 → Int32 → aSt → Option (aSt)} (hC : aCx C M_X4_findLeastCosts) {r : aSt} (hF : aFin C none LAY r 0 0) (hrec2 : ∀ (v1 : Int32) (v2 : Int32) (S : aSt), rec2 v1 v2 S = (some r) → aX C M_X4_findLeastCosts 0 0 (2, [(0, .ref 38), (1, .int v1), (2, .int v2)], [], LAY, S)) (hrec11 : ∀ (v1 : Int32) (v2 : Int32) (v3 : Int32) (S : aSt), rec11 v1 v2 v3 S = (some r) → aX C M_X4_findLeastCosts 0 0 (11, [(0, .ref 38), (1, .int v1), (2, .int v2), (3, .int v3)], [], LAY, S)) (v1 : Int32) (v2 : Int32) (v3 : Int32) (S : aSt) (hf : X4_findLeastCosts_38_b11 N rec2 rec11 v1 v2 v3 S = (some r)) : aX C M_X4_findLeastCosts 0 0 (11, [(0, .ref 38), (1, .int v1), (2, .int v2), (3, .int v3)], [], LAY, S) := by
  have hT := ok_X4_findLeastCosts
  unfold X4_findLeastCosts_38_b11 at hf
  refine aRun_ok hC hT 1 (cf' := (12, [(0, .ref 38), (1, .int v1), (2, .int v2), (3, .int v3)], [.int v3], LAY, S)) (by rfl) ?_
  refine aIf_lt hC hT (tgt := 139) rfl (by decide) (fun hc2 => ?_) (fun hc2 => ?_)
  · have hf := aIfT hf hc2
    refine aLocs [0, 1, 2] (lv' := [(0, .ref 38), (1, .int v1), (2, .int v2)]) rfl ?_
    exact X4_findLeastCosts_38_b139_ok hC hF hrec2 v1 v2 S hf
  · have hf := aIfF hf hc2
    refine aRun_ok hC hT 13 (cf' := (31, [(4, .int ((1 : Int32) * (((v1 - v2) + (S.1 38 0)) - v3))), (0, .ref 38), (1, .int v1), (2, .int v2), (3, .int v3)], [.int v1, .int v2], LAY, S)) (by rfl) ?_
    refine aCmp_ge hC hT (tgt := 118) rfl (by decide) (fun hc3 => ?_) (fun hc3 => ?_)
    · have hf := aIfT hf hc3
      refine aLocs [1, 2, 3, 4, 0] (lv' := [(0, .ref 38), (1, .int v1), (2, .int v2), (3, .int v3), (4, .int ((1 : Int32) * (((v1 - v2) + (S.1 38 0)) - v3)))]) rfl ?_
      exact X4_findLeastCosts_38_b118_ok hC hF hrec2 hrec11 v1 v2 v3 ((1 : Int32) * (((v1 - v2) + (S.1 38 0)) - v3)) S hf
    · have hf := aIfF hf hc3
      refine aRun_ok hC hT 3 (cf' := (39, [(4, .int ((1 : Int32) * (((v1 - v2) + (S.1 38 0)) - v3))), (0, .ref 38), (1, .int v1), (2, .int v2), (3, .int v3)], [.int (S.1 38 0), .int v3], LAY, S)) (by rfl) ?_
      refine aCmp_ge hC hT (tgt := 118) rfl (by decide) (fun hc6 => ?_) (fun hc6 => ?_)
      · have hf := aIfT hf hc6
        refine aLocs [1, 2, 3, 4, 0] (lv' := [(0, .ref 38), (1, .int v1), (2, .int v2), (3, .int v3), (4, .int ((1 : Int32) * (((v1 - v2) + (S.1 38 0)) - v3)))]) rfl ?_
        exact X4_findLeastCosts_38_b118_ok hC hF hrec2 hrec11 v1 v2 v3 ((1 : Int32) * (((v1 - v2) + (S.1 38 0)) - v3)) S hf
      · have hf := aIfF hf hc6
        refine aRun_ok hC hT 4 (cf' := (48, [(4, .int ((1 : Int32) * (((v1 - v2) + (S.1 38 0)) - v3))), (0, .ref 38), (1, .int v1), (2, .int v2), (3, .int v3)], [.int (1 : Int32), .int v2, .ref 8], LAY, S)) (by rfl) ?_
        obtain ⟨w7, ew8, hf⟩ := aLetE hf
        refine aCallV (b := 8) (As := [.int v2, .int (1 : Int32)]) (rest := []) hC hT rfl k_X4_findLeastCosts_39.1 _ _ k_X4_findLeastCosts_39.2 (by decide) (by rfl) (by rfl) (by rfl) (Nat.le_of_ble_eq_true rfl) (by decide) (J_X2_told_8 C.2.2.1 C.1 v2 (1 : Int32) S ew8) ?_
        refine aRun_ok hC hT 3 (cf' := (56, [(4, .int ((1 : Int32) * (((v1 - v2) + (S.1 38 0)) - v3))), (0, .ref 38), (1, .int v1), (2, .int v2), (3, .int v3)], [.int v3, .ref 39, .int w7], LAY, S)) (by rfl) ?_
        obtain ⟨w9, ew10, hf⟩ := aLetE hf
        refine aCallS (As := [.ref 39, .int v3]) (rest := [.int w7]) hC hT rfl k_X4_findLeastCosts_44.1 _ k_X4_findLeastCosts_44.2 (by rfl) (Nat.le_of_ble_eq_true rfl) (by decide) (J_X6_at_39 C.2.2.1 C.1 v3 S ew10) ?_
        obtain ⟨w11, ew12, hf⟩ := aBnE hf
        refine aCallS (As := [.int w7, .int w9]) (rest := []) hC hT rfl k_X4_findLeastCosts_48.1 _ k_X4_findLeastCosts_48.2 (by rfl) (Nat.le_of_ble_eq_true rfl) (by decide) (J_X4_pairCost C.2.2.1 C.1 N w7 w9 S ew12) ?_
        refine aRun_ok hC hT 9 (cf' := (76, [(5, .int w11), (4, .int ((1 : Int32) * (((v1 - v2) + (S.1 38 0)) - v3))), (0, .ref 38), (1, .int v1), (2, .int v2), (3, .int v3)], [.int w11, .int ((v2 * (13 : Int32)) + v3), .ref 41], LAY, S)) (by rfl) ?_
        obtain ⟨w13, ew14, hf⟩ := aLetE hf
        refine aCallS (As := [.ref 41, .int ((v2 * (13 : Int32)) + v3), .int w11]) (rest := []) hC hT rfl k_X4_findLeastCosts_29.1 _ k_X4_findLeastCosts_29.2 (by rfl) (Nat.le_of_ble_eq_true rfl) (by decide) (J_X6_set_41 C.2.2.1 C.1 ((v2 * (13 : Int32)) + v3) w11 S ew14) ?_
        refine aRun_ok hC hT 8 (cf' := (88, [(5, .int w11), (4, .int ((1 : Int32) * (((v1 - v2) + (S.1 38 0)) - v3))), (0, .ref 38), (1, .int v1), (2, .int v2), (3, .int v3)], [.int (v3 + (1 : Int32)), .int (v2 + (1 : Int32)), .ref 38, .int w11], LAY, w13)) (by rfl) ?_
        obtain ⟨w15, ew16, hf⟩ := aLetE hf
        refine aCallV (b := 38) (As := [.int (v2 + (1 : Int32)), .int (v3 + (1 : Int32))]) (rest := [.int w11]) hC hT rfl k_X4_findLeastCosts_35.1 _ _ k_X4_findLeastCosts_35.2 (by decide) (by rfl) (by rfl) (by rfl) (Nat.le_of_ble_eq_true rfl) (by decide) (J_X4_costFrom_38 C.2.2.1 C.1 (v2 + (1 : Int32)) (v3 + (1 : Int32)) w13 ew16) ?_
        refine aRun_ok hC hT 7 (cf' := (98, [(5, .int w11), (4, .int ((1 : Int32) * (((v1 - v2) + (S.1 38 0)) - v3))), (0, .ref 38), (1, .int v1), (2, .int v2), (3, .int v3)], [.int v3, .int (v2 + (1 : Int32)), .ref 38, .int (1 : Int32), .int (w11 + w15)], LAY, w13)) (by rfl) ?_
        obtain ⟨w17, ew18, hf⟩ := aLetE hf
        refine aCallV (b := 38) (As := [.int (v2 + (1 : Int32)), .int v3]) (rest := [.int (1 : Int32), .int (w11 + w15)]) hC hT rfl k_X4_findLeastCosts_35.1 _ _ k_X4_findLeastCosts_35.2 (by decide) (by rfl) (by rfl) (by rfl) (Nat.le_of_ble_eq_true rfl) (by decide) (J_X4_costFrom_38 C.2.2.1 C.1 (v2 + (1 : Int32)) v3 w13 ew18) ?_
        refine aRun_ok hC hT 5 (cf' := (106, [(5, .int w11), (4, .int ((1 : Int32) * (((v1 - v2) + (S.1 38 0)) - v3))), (0, .ref 38), (1, .int v1), (2, .int v2), (3, .int v3)], [.int (v3 + (1 : Int32)), .int v2, .ref 38, .int w17, .int (1 : Int32), .int (w11 + w15)], LAY, w13)) (by rfl) ?_
        obtain ⟨w19, ew20, hf⟩ := aLetE hf
        refine aCallV (b := 38) (As := [.int v2, .int (v3 + (1 : Int32))]) (rest := [.int w17, .int (1 : Int32), .int (w11 + w15)]) hC hT rfl k_X4_findLeastCosts_35.1 _ _ k_X4_findLeastCosts_35.2 (by decide) (by rfl) (by rfl) (by rfl) (Nat.le_of_ble_eq_true rfl) (by decide) (J_X4_costFrom_38 C.2.2.1 C.1 v2 (v3 + (1 : Int32)) w13 ew20) ?_
        obtain ⟨w21, ew22, hf⟩ := aLetE hf
        refine aCallS (As := [.int w17, .int w19]) (rest := [.int (1 : Int32), .int (w11 + w15)]) hC hT rfl k_X4_findLeastCosts_51.1 _ k_X4_findLeastCosts_51.2 (by rfl) (Nat.le_of_ble_eq_true rfl) (by decide) (J_J9_min_7cf53 C.2.2.1 C.1 w17 w19 w13 ew22) ?_
        refine aRun_ok hC hT 1 (cf' := (113, [(5, .int w11), (4, .int ((1 : Int32) * (((v1 - v2) + (S.1 38 0)) - v3))), (0, .ref 38), (1, .int v1), (2, .int v2), (3, .int v3)], [.int ((1 : Int32) + w21), .int (w11 + w15)], LAY, w13)) (by rfl) ?_
        obtain ⟨w23, ew24, hf⟩ := aLetE hf
        refine aCallS (As := [.int (w11 + w15), .int ((1 : Int32) + w21)]) (rest := []) hC hT rfl k_X4_findLeastCosts_51.1 _ k_X4_findLeastCosts_51.2 (by rfl) (Nat.le_of_ble_eq_true rfl) (by decide) (J_J9_min_7cf53 C.2.2.1 C.1 (w11 + w15) ((1 : Int32) + w21) w13 ew24) ?_
        refine aRun_ok hC hT 1 (cf' := (118, [(4, .int w23), (5, .int w11), (0, .ref 38), (1, .int v1), (2, .int v2), (3, .int v3)], [], LAY, w13)) (by rfl) ?_
        refine aLocs [2, 3, 4, 5, 0] (lv' := [(0, .ref 38), (1, .int v1), (2, .int v2), (3, .int v3), (4, .int w23)]) rfl ?_
        exact X4_findLeastCosts_38_b118_ok hC hF hrec2 hrec11 v1 v2 v3 w23 w13 hf
def X4_findLeastCosts_38_l11 (N : Nat) (rec2 : Int32 → Int32 → aSt → Option (aSt)) : Nat → Int32 → Int32 → Int32 → aSt → Option (aSt)
  | 0 => fun _ _ _ _ => none
  | n + 1 => X4_findLeastCosts_38_b11 N rec2 (X4_findLeastCosts_38_l11 N rec2 n)
theorem X4_findLeastCosts_38_l11_ok {C : aC} {N : Nat} {rec2 : Int32 → Int32 → aSt → Option (aSt)} (hC : aCx C M_X4_findLeastCosts) {r : aSt} (hF : aFin C none LAY r 0 0) (hrec2 : ∀ (v1 : Int32) (v2 : Int32) (S : aSt), rec2 v1 v2 S = (some r) → aX C M_X4_findLeastCosts 0 0 (2, [(0, .ref 38), (1, .int v1), (2, .int v2)], [], LAY, S)) : ∀ (n : Nat) (v1 : Int32) (v2 : Int32) (v3 : Int32) (S : aSt), X4_findLeastCosts_38_l11 N rec2 n v1 v2 v3 S = (some r) → aX C M_X4_findLeastCosts 0 0 (11, [(0, .ref 38), (1, .int v1), (2, .int v2), (3, .int v3)], [], LAY, S)
  | 0, _, _, _, _,  h => nomatch (show (none : Option (aSt)) = some _ from h)
  | n + 1, v1, v2, v3, S,  h => X4_findLeastCosts_38_b11_ok hC hF hrec2 (fun v1 v2 v3 S h => X4_findLeastCosts_38_l11_ok hC hF hrec2 n v1 v2 v3 S h) v1 v2 v3 S h
def X4_findLeastCosts_38_b2 (N : Nat) (rec2 : Int32 → Int32 → aSt → Option (aSt)) (v1 : Int32) (v2 : Int32) (S : aSt) : Option (aSt) := (if v2 < (0 : Int32) then some (S) else (X4_findLeastCosts_38_l11 N rec2 N v1 v2 (S.1 38 0) S))
set_option maxHeartbeats 4000000 in
set_option maxRecDepth 100000 in
theorem X4_findLeastCosts_38_b2_ok {C : aC} {N : Nat} {rec2 : Int32 → Int32 → aSt → Option (aSt)} (hC : aCx C M_X4_findLeastCosts) {r : aSt} (hF : aFin C none LAY r 0 0) (hrec2 : ∀ (v1 : Int32) (v2 : Int32) (S : aSt), rec2 v1 v2 S = (some r) → aX C M_X4_findLeastCosts 0 0 (2, [(0, .ref 38), (1, .int v1), (2, .int v2)], [], LAY, S)) (v1 : Int32) (v2 : Int32) (S : aSt) (hf : X4_findLeastCosts_38_b2 N rec2 v1 v2 S = (some r)) : aX C M_X4_findLeastCosts 0 0 (2, [(0, .ref 38), (1, .int v1), (2, .int v2)], [], LAY, S) := by
  have hT := ok_X4_findLeastCosts
  unfold X4_findLeastCosts_38_b2 at hf
  refine aRun_ok hC hT 1 (cf' := (3, [(0, .ref 38), (1, .int v1), (2, .int v2)], [.int v2], LAY, S)) (by rfl) ?_
  refine aIf_lt hC hT (tgt := 145) rfl (by decide) (fun hc1 => ?_) (fun hc1 => ?_)
  · have hf := aIfT hf hc1
    have e9 := Option.some.inj hf; subst e9
    exact aRetV hC hT hF rfl rfl
  · have hf := aIfF hf hc1
    refine aRun_ok hC hT 3 (cf' := (11, [(3, .int (S.1 38 0)), (0, .ref 38), (1, .int v1), (2, .int v2)], [], LAY, S)) (by rfl) ?_
    refine aLocs [1, 2, 3, 0] (lv' := [(0, .ref 38), (1, .int v1), (2, .int v2), (3, .int (S.1 38 0))]) rfl ?_
    exact X4_findLeastCosts_38_l11_ok hC hF hrec2 N v1 v2 (S.1 38 0) S hf
def X4_findLeastCosts_38_l2 (N : Nat) : Nat → Int32 → Int32 → aSt → Option (aSt)
  | 0 => fun _ _ _ => none
  | n + 1 => X4_findLeastCosts_38_b2 N (X4_findLeastCosts_38_l2 N n)
theorem X4_findLeastCosts_38_l2_ok {C : aC} {N : Nat} (hC : aCx C M_X4_findLeastCosts) {r : aSt} (hF : aFin C none LAY r 0 0) : ∀ (n : Nat) (v1 : Int32) (v2 : Int32) (S : aSt), X4_findLeastCosts_38_l2 N n v1 v2 S = (some r) → aX C M_X4_findLeastCosts 0 0 (2, [(0, .ref 38), (1, .int v1), (2, .int v2)], [], LAY, S)
  | 0, _, _, _,  h => nomatch (show (none : Option (aSt)) = some _ from h)
  | n + 1, v1, v2, S,  h => X4_findLeastCosts_38_b2_ok hC hF (fun v1 v2 S h => X4_findLeastCosts_38_l2_ok hC hF n v1 v2 S h) v1 v2 S h
def X4_findLeastCosts_38 (N : Nat) (a1 : Int32) (S : aSt) : Option (aSt) := (X4_findLeastCosts_38_l2 N N a1 a1 S)
set_option maxHeartbeats 4000000 in
set_option maxRecDepth 100000 in
theorem J_X4_findLeastCosts_38 (l : Launch) (g : aWg) (N : Nat) (a1 : Int32) (S : aSt) {r : aSt} (hf : X4_findLeastCosts_38 N a1 S = (some r)) : aJ l g yX4_findLeastCosts M_X4_findLeastCosts [.ref 38, .int a1] LAY S none LAY r 0 0 := by
  refine aJ_of (by decide +kernel) rfl (Nat.le_of_ble_eq_true rfl) (fun h => nomatch h) ?_
  intro C hg hl hC hz hF
  subst hg; subst hl
  have hT := ok_X4_findLeastCosts
  unfold X4_findLeastCosts_38 at hf
  show aX C M_X4_findLeastCosts 0 0 (0, [(0, .ref 38), (1, .int a1)], [], LAY, S)
  refine aRun_ok hC hT 2 (cf' := (2, [(2, .int a1), (0, .ref 38), (1, .int a1)], [], LAY, S)) (by rfl) ?_
  refine aLocs [1, 2, 0] (lv' := [(0, .ref 38), (1, .int a1), (2, .int a1)]) rfl ?_
  exact X4_findLeastCosts_38_l2_ok hC hF N a1 a1 S hf
def X6_at_41 (a1 : Int32) (S : aSt) : Int32 := (if a1 < (0 : Int32) then (0 : Int32) else (if (169 : Int32) ≤ a1 then (0 : Int32) else ((S.2.2 41) a1.toNatClampNeg)))
set_option maxHeartbeats 4000000 in
set_option maxRecDepth 100000 in
theorem J_X6_at_41 (l : Launch) (g : aWg) (a1 : Int32) (S : aSt) {r : Int32} (hf : X6_at_41 a1 S = r) : aJ l g yX6_at M_X6_at [.ref 41, .int a1] LAY S (some (.int r)) LAY S 0 0 := by
  refine aJ_of (by decide +kernel) rfl (Nat.le_of_ble_eq_true rfl) (fun h => nomatch h) ?_
  intro C hg hl hC hz hF
  subst hg; subst hl
  have hT := ok_X6_at
  unfold X6_at_41 at hf
  show aX C M_X6_at 0 0 (0, [(0, .ref 41), (1, .int a1)], [], LAY, S)
  refine aRun_ok hC hT 1 (cf' := (1, [(0, .ref 41), (1, .int a1)], [.int a1], LAY, S)) (by rfl) ?_
  refine aIf_lt hC hT (tgt := 16) rfl (by decide) (fun hc1 => ?_) (fun hc1 => ?_)
  · have hf := aIfT hf hc1
    refine aRun_ok hC hT 1 (cf' := (17, [(0, .ref 41), (1, .int a1)], [.int (0 : Int32)], LAY, S)) (by rfl) ?_
    subst hf
    exact aRetI hC hT hF rfl rfl
  · have hf := aIfF hf hc1
    refine aRun_ok hC hT 3 (cf' := (7, [(0, .ref 41), (1, .int a1)], [.int (169 : Int32), .int a1], LAY, S)) (by rfl) ?_
    refine aCmp_ge hC hT (tgt := 16) rfl (by decide) (fun hc2 => ?_) (fun hc2 => ?_)
    · have hf := aIfT hf hc2
      refine aRun_ok hC hT 1 (cf' := (17, [(0, .ref 41), (1, .int a1)], [.int (0 : Int32)], LAY, S)) (by rfl) ?_
      subst hf
      exact aRetI hC hT hF rfl rfl
    · have hf := aIfF hf hc2
      refine aRun_ok hC hT 2 (cf' := (12, [(0, .ref 41), (1, .int a1)], [.int a1, .ref 41], LAY, S)) (by rfl) ?_
      refine aIald hC hT rfl (by decide) (by rfl) (aIx_of hc1 hc2 (by decide)) ?_
      refine aRun_ok hC hT 1 (cf' := (17, [(0, .ref 41), (1, .int a1)], [.int ((S.2.2 41) a1.toNatClampNeg)], LAY, S)) (by rfl) ?_
      subst hf
      exact aRetI hC hT hF rfl rfl
def X4_leastLine_38_b10 (N : Nat) (S : aSt) (rec10 : Int32 → Int32 → Int32 → Int32 → Option (Int32)) (v1 : Int32) (v2 : Int32) (v3 : Int32) (v4 : Int32) : Option (Int32) := (if (S.1 38 0) ≤ v4 then some (((-1) : Int32)) else (aLet (X6_at_41 ((v1 * (13 : Int32)) + v4) S) (fun w4 => (aLet (X4_costFrom_38 (v1 + (1 : Int32)) (v4 + (1 : Int32)) S) (fun w6 => (if ((((1 : Int32) * (v4 - v2)) + w4) + w6) = v3 then some (v4) else (rec10 v1 v2 v3 (v4 + (1 : Int32)))))))))
set_option maxHeartbeats 4000000 in
set_option maxRecDepth 100000 in
theorem X4_leastLine_38_b10_ok {C : aC} {N : Nat} {S : aSt} {rec10 : Int32 → Int32 → Int32 → Int32 → Option (Int32)} (hC : aCx C M_X4_leastLine) {r : Int32} (hF : aFin C (some (.int r)) LAY S 0 0) (hrec10 : ∀ (v1 : Int32) (v2 : Int32) (v3 : Int32) (v4 : Int32), rec10 v1 v2 v3 v4 = (some r) → aX C M_X4_leastLine 0 0 (10, [(0, .ref 38), (1, .int v1), (2, .int v2), (3, .int v3), (4, .int v4)], [], LAY, S)) (v1 : Int32) (v2 : Int32) (v3 : Int32) (v4 : Int32) (hf : X4_leastLine_38_b10 N S rec10 v1 v2 v3 v4 = (some r)) : aX C M_X4_leastLine 0 0 (10, [(0, .ref 38), (1, .int v1), (2, .int v2), (3, .int v3), (4, .int v4)], [], LAY, S) := by
  have hT := ok_X4_leastLine
  unfold X4_leastLine_38_b10 at hf
  refine aRun_ok hC hT 3 (cf' := (16, [(0, .ref 38), (1, .int v1), (2, .int v2), (3, .int v3), (4, .int v4)], [.int (S.1 38 0), .int v4], LAY, S)) (by rfl) ?_
  refine aCmp_ge hC hT (tgt := 73) rfl (by decide) (fun hc3 => ?_) (fun hc3 => ?_)
  · have hf := aIfT hf hc3
    refine aRun_ok hC hT 1 (cf' := (74, [(0, .ref 38), (1, .int v1), (2, .int v2), (3, .int v3), (4, .int v4)], [.int ((-1) : Int32)], LAY, S)) (by rfl) ?_
    have e9 := Option.some.inj hf; subst e9
    exact aRetI hC hT hF rfl rfl
  · have hf := aIfF hf hc3
    refine aRun_ok hC hT 13 (cf' := (38, [(5, .int ((1 : Int32) * (v4 - v2))), (0, .ref 38), (1, .int v1), (2, .int v2), (3, .int v3), (4, .int v4)], [.int ((v1 * (13 : Int32)) + v4), .ref 41], LAY, S)) (by rfl) ?_
    obtain ⟨w4, ew5, hf⟩ := aLetE hf
    refine aCallS (As := [.ref 41, .int ((v1 * (13 : Int32)) + v4)]) (rest := []) hC hT rfl k_X4_leastLine_44.1 _ k_X4_leastLine_44.2 (by rfl) (Nat.le_of_ble_eq_true rfl) (by decide) (J_X6_at_41 C.2.2.1 C.1 ((v1 * (13 : Int32)) + v4) S ew5) ?_
    refine aRun_ok hC hT 11 (cf' := (56, [(6, .int w4), (5, .int ((1 : Int32) * (v4 - v2))), (0, .ref 38), (1, .int v1), (2, .int v2), (3, .int v3), (4, .int v4)], [.int (v4 + (1 : Int32)), .int (v1 + (1 : Int32)), .ref 38, .int (((1 : Int32) * (v4 - v2)) + w4)], LAY, S)) (by rfl) ?_
    obtain ⟨w6, ew7, hf⟩ := aLetE hf
    refine aCallV (b := 38) (As := [.int (v1 + (1 : Int32)), .int (v4 + (1 : Int32))]) (rest := [.int (((1 : Int32) * (v4 - v2)) + w4)]) hC hT rfl k_X4_leastLine_35.1 _ _ k_X4_leastLine_35.2 (by decide) (by rfl) (by rfl) (by rfl) (Nat.le_of_ble_eq_true rfl) (by decide) (J_X4_costFrom_38 C.2.2.1 C.1 (v1 + (1 : Int32)) (v4 + (1 : Int32)) S ew7) ?_
    refine aRun_ok hC hT 2 (cf' := (61, [(6, .int w4), (5, .int ((1 : Int32) * (v4 - v2))), (0, .ref 38), (1, .int v1), (2, .int v2), (3, .int v3), (4, .int v4)], [.int v3, .int ((((1 : Int32) * (v4 - v2)) + w4) + w6)], LAY, S)) (by rfl) ?_
    refine aCmp_ne hC hT (tgt := 67) rfl (by decide) (fun hc8 => ?_) (fun hc8 => ?_)
    · have hf := aIfF hf hc8
      refine aRun_ok hC hT 2 (cf' := (10, [(4, .int (v4 + (1 : Int32))), (6, .int w4), (5, .int ((1 : Int32) * (v4 - v2))), (0, .ref 38), (1, .int v1), (2, .int v2), (3, .int v3)], [], LAY, S)) (by rfl) ?_
      refine aLocs [3, 4, 5, 6, 0] (lv' := [(0, .ref 38), (1, .int v1), (2, .int v2), (3, .int v3), (4, .int (v4 + (1 : Int32)))]) rfl ?_
      exact hrec10 v1 v2 v3 (v4 + (1 : Int32)) hf
    · have hf := aIfT hf hc8
      refine aRun_ok hC hT 1 (cf' := (66, [(6, .int w4), (5, .int ((1 : Int32) * (v4 - v2))), (0, .ref 38), (1, .int v1), (2, .int v2), (3, .int v3), (4, .int v4)], [.int v4], LAY, S)) (by rfl) ?_
      have e9 := Option.some.inj hf; subst e9
      exact aRetI hC hT hF rfl rfl
def X4_leastLine_38_l10 (N : Nat) (S : aSt) : Nat → Int32 → Int32 → Int32 → Int32 → Option (Int32)
  | 0 => fun _ _ _ _ => none
  | n + 1 => X4_leastLine_38_b10 N S (X4_leastLine_38_l10 N S n)
theorem X4_leastLine_38_l10_ok {C : aC} {N : Nat} {S : aSt} (hC : aCx C M_X4_leastLine) {r : Int32} (hF : aFin C (some (.int r)) LAY S 0 0) : ∀ (n : Nat) (v1 : Int32) (v2 : Int32) (v3 : Int32) (v4 : Int32), X4_leastLine_38_l10 N S n v1 v2 v3 v4 = (some r) → aX C M_X4_leastLine 0 0 (10, [(0, .ref 38), (1, .int v1), (2, .int v2), (3, .int v3), (4, .int v4)], [], LAY, S)
  | 0, _, _, _, _,  h => nomatch (show (none : Option (Int32)) = some _ from h)
  | n + 1, v1, v2, v3, v4,  h => X4_leastLine_38_b10_ok hC hF (fun v1 v2 v3 v4 h => X4_leastLine_38_l10_ok hC hF n v1 v2 v3 v4 h) v1 v2 v3 v4 h
def X4_leastLine_38 (N : Nat) (a1 : Int32) (a2 : Int32) (S : aSt) : Option (Int32) := (aLet (X4_costFrom_38 a1 a2 S) (fun w1 => (X4_leastLine_38_l10 N S N a1 a2 w1 a2)))
set_option maxHeartbeats 4000000 in
set_option maxRecDepth 100000 in
theorem J_X4_leastLine_38 (l : Launch) (g : aWg) (N : Nat) (a1 : Int32) (a2 : Int32) (S : aSt) {r : Int32} (hf : X4_leastLine_38 N a1 a2 S = (some r)) : aJ l g yX4_leastLine M_X4_leastLine [.ref 38, .int a1, .int a2] LAY S (some (.int r)) LAY S 0 0 := by
  refine aJ_of (by decide +kernel) rfl (Nat.le_of_ble_eq_true rfl) (fun h => nomatch h) ?_
  intro C hg hl hC hz hF
  subst hg; subst hl
  have hT := ok_X4_leastLine
  unfold X4_leastLine_38 at hf
  show aX C M_X4_leastLine 0 0 (0, [(0, .ref 38), (1, .int a1), (2, .int a2)], [], LAY, S)
  refine aRun_ok hC hT 3 (cf' := (3, [(0, .ref 38), (1, .int a1), (2, .int a2)], [.int a2, .int a1, .ref 38], LAY, S)) (by rfl) ?_
  obtain ⟨w1, ew2, hf⟩ := aLetE hf
  refine aCallV (b := 38) (As := [.int a1, .int a2]) (rest := []) hC hT rfl k_X4_leastLine_35.1 _ _ k_X4_leastLine_35.2 (by decide) (by rfl) (by rfl) (by rfl) (Nat.le_of_ble_eq_true rfl) (by decide) (J_X4_costFrom_38 C.2.2.1 C.1 a1 a2 S ew2) ?_
  refine aRun_ok hC hT 3 (cf' := (10, [(4, .int a2), (3, .int w1), (0, .ref 38), (1, .int a1), (2, .int a2)], [], LAY, S)) (by rfl) ?_
  refine aLocs [2, 3, 4, 1, 0] (lv' := [(0, .ref 38), (1, .int a1), (2, .int a2), (3, .int w1), (4, .int a2)]) rfl ?_
  exact X4_leastLine_38_l10_ok hC hF N a1 a2 w1 a2 hf
def X4_lineOf_38_b43 (N : Nat) (S : aSt) (rec8 : Int32 → Int32 → Int32 → Int32 → Int32 → Option (Int32)) (v1 : Int32) (v2 : Int32) (v4 : Int32) (v5 : Int32) (s0 : Int32) : Option (Int32) := (rec8 v1 v2 s0 v4 (v5 + (1 : Int32)))
set_option maxHeartbeats 4000000 in
set_option maxRecDepth 100000 in
theorem X4_lineOf_38_b43_ok {C : aC} {N : Nat} {S : aSt} {rec8 : Int32 → Int32 → Int32 → Int32 → Int32 → Option (Int32)} (hC : aCx C M_X4_lineOf) {r : Int32} (hF : aFin C (some (.int r)) LAY S 0 0) (hrec8 : ∀ (v1 : Int32) (v2 : Int32) (v3 : Int32) (v4 : Int32) (v5 : Int32), rec8 v1 v2 v3 v4 v5 = (some r) → aX C M_X4_lineOf 0 0 (8, [(0, .ref 38), (1, .int v1), (2, .int v2), (3, .int v3), (4, .int v4), (5, .int v5)], [], LAY, S)) (v1 : Int32) (v2 : Int32) (v4 : Int32) (v5 : Int32) (s0 : Int32) (hf : X4_lineOf_38_b43 N S rec8 v1 v2 v4 v5 s0 = (some r)) : aX C M_X4_lineOf 0 0 (43, [(0, .ref 38), (1, .int v1), (2, .int v2), (4, .int v4), (5, .int v5)], [.int s0], LAY, S) := by
  have hT := ok_X4_lineOf
  unfold X4_lineOf_38_b43 at hf
  refine aRun_ok hC hT 3 (cf' := (8, [(5, .int (v5 + (1 : Int32))), (3, .int s0), (0, .ref 38), (1, .int v1), (2, .int v2), (4, .int v4)], [], LAY, S)) (by rfl) ?_
  refine aLocs [2, 3, 4, 1, 5, 0] (lv' := [(0, .ref 38), (1, .int v1), (2, .int v2), (3, .int s0), (4, .int v4), (5, .int (v5 + (1 : Int32)))]) rfl ?_
  exact hrec8 v1 v2 s0 v4 (v5 + (1 : Int32)) hf
def X4_lineOf_38_b8 (N : Nat) (S : aSt) (rec8 : Int32 → Int32 → Int32 → Int32 → Int32 → Option (Int32)) (v1 : Int32) (v2 : Int32) (v3 : Int32) (v4 : Int32) (v5 : Int32) : Option (Int32) := (if v1 < v5 then some (v4) else (if v2 ≤ v5 then some (v4) else (Option.bind (X4_leastLine_38 N v5 v3 S) (fun w3 => (if w3 = ((-1) : Int32) then (X4_lineOf_38_b43 N S rec8 v1 v2 w3 v5 v3) else (X4_lineOf_38_b43 N S rec8 v1 v2 w3 v5 (w3 + (1 : Int32))))))))
set_option maxHeartbeats 4000000 in
set_option maxRecDepth 100000 in
theorem X4_lineOf_38_b8_ok {C : aC} {N : Nat} {S : aSt} {rec8 : Int32 → Int32 → Int32 → Int32 → Int32 → Option (Int32)} (hC : aCx C M_X4_lineOf) {r : Int32} (hF : aFin C (some (.int r)) LAY S 0 0) (hrec8 : ∀ (v1 : Int32) (v2 : Int32) (v3 : Int32) (v4 : Int32) (v5 : Int32), rec8 v1 v2 v3 v4 v5 = (some r) → aX C M_X4_lineOf 0 0 (8, [(0, .ref 38), (1, .int v1), (2, .int v2), (3, .int v3), (4, .int v4), (5, .int v5)], [], LAY, S)) (v1 : Int32) (v2 : Int32) (v3 : Int32) (v4 : Int32) (v5 : Int32) (hf : X4_lineOf_38_b8 N S rec8 v1 v2 v3 v4 v5 = (some r)) : aX C M_X4_lineOf 0 0 (8, [(0, .ref 38), (1, .int v1), (2, .int v2), (3, .int v3), (4, .int v4), (5, .int v5)], [], LAY, S) := by
  have hT := ok_X4_lineOf
  unfold X4_lineOf_38_b8 at hf
  refine aRun_ok hC hT 2 (cf' := (11, [(0, .ref 38), (1, .int v1), (2, .int v2), (3, .int v3), (4, .int v4), (5, .int v5)], [.int v1, .int v5], LAY, S)) (by rfl) ?_
  refine aCmp_gt hC hT (tgt := 50) rfl (by decide) (fun hc1 => ?_) (fun hc1 => ?_)
  · have hf := aIfT hf hc1
    refine aRun_ok hC hT 1 (cf' := (52, [(0, .ref 38), (1, .int v1), (2, .int v2), (3, .int v3), (4, .int v4), (5, .int v5)], [.int v4], LAY, S)) (by rfl) ?_
    have e9 := Option.some.inj hf; subst e9
    exact aRetI hC hT hF rfl rfl
  · have hf := aIfF hf hc1
    refine aRun_ok hC hT 2 (cf' := (17, [(0, .ref 38), (1, .int v1), (2, .int v2), (3, .int v3), (4, .int v4), (5, .int v5)], [.int v2, .int v5], LAY, S)) (by rfl) ?_
    refine aCmp_ge hC hT (tgt := 50) rfl (by decide) (fun hc2 => ?_) (fun hc2 => ?_)
    · have hf := aIfT hf hc2
      refine aRun_ok hC hT 1 (cf' := (52, [(0, .ref 38), (1, .int v1), (2, .int v2), (3, .int v3), (4, .int v4), (5, .int v5)], [.int v4], LAY, S)) (by rfl) ?_
      have e9 := Option.some.inj hf; subst e9
      exact aRetI hC hT hF rfl rfl
    · have hf := aIfF hf hc2
      refine aRun_ok hC hT 3 (cf' := (24, [(0, .ref 38), (1, .int v1), (2, .int v2), (3, .int v3), (4, .int v4), (5, .int v5)], [.int v3, .int v5, .ref 38], LAY, S)) (by rfl) ?_
      obtain ⟨w3, ew4, hf⟩ := aBnE hf
      refine aCallV (b := 38) (As := [.int v5, .int v3]) (rest := []) hC hT rfl k_X4_lineOf_56.1 _ _ k_X4_lineOf_56.2 (by decide) (by rfl) (by rfl) (by rfl) (Nat.le_of_ble_eq_true rfl) (by decide) (J_X4_leastLine_38 C.2.2.1 C.1 N v5 v3 S ew4) ?_
      refine aRun_ok hC hT 3 (cf' := (32, [(4, .int w3), (0, .ref 38), (1, .int v1), (2, .int v2), (3, .int v3), (5, .int v5)], [.int ((-1) : Int32), .int w3], LAY, S)) (by rfl) ?_
      refine aCmp_ne hC hT (tgt := 39) rfl (by decide) (fun hc5 => ?_) (fun hc5 => ?_)
      · have hf := aIfF hf hc5
        refine aRun_ok hC hT 3 (cf' := (43, [(4, .int w3), (0, .ref 38), (1, .int v1), (2, .int v2), (3, .int v3), (5, .int v5)], [.int (w3 + (1 : Int32))], LAY, S)) (by rfl) ?_
        refine aLocs [1, 2, 3, 0, 5] (lv' := [(0, .ref 38), (1, .int v1), (2, .int v2), (4, .int w3), (5, .int v5)]) rfl ?_
        exact X4_lineOf_38_b43_ok hC hF hrec8 v1 v2 w3 v5 (w3 + (1 : Int32)) hf
      · have hf := aIfT hf hc5
        refine aRun_ok hC hT 2 (cf' := (43, [(4, .int w3), (0, .ref 38), (1, .int v1), (2, .int v2), (3, .int v3), (5, .int v5)], [.int v3], LAY, S)) (by rfl) ?_
        refine aLocs [1, 2, 3, 0, 5] (lv' := [(0, .ref 38), (1, .int v1), (2, .int v2), (4, .int w3), (5, .int v5)]) rfl ?_
        exact X4_lineOf_38_b43_ok hC hF hrec8 v1 v2 w3 v5 v3 hf
def X4_lineOf_38_l8 (N : Nat) (S : aSt) : Nat → Int32 → Int32 → Int32 → Int32 → Int32 → Option (Int32)
  | 0 => fun _ _ _ _ _ => none
  | n + 1 => X4_lineOf_38_b8 N S (X4_lineOf_38_l8 N S n)
theorem X4_lineOf_38_l8_ok {C : aC} {N : Nat} {S : aSt} (hC : aCx C M_X4_lineOf) {r : Int32} (hF : aFin C (some (.int r)) LAY S 0 0) : ∀ (n : Nat) (v1 : Int32) (v2 : Int32) (v3 : Int32) (v4 : Int32) (v5 : Int32), X4_lineOf_38_l8 N S n v1 v2 v3 v4 v5 = (some r) → aX C M_X4_lineOf 0 0 (8, [(0, .ref 38), (1, .int v1), (2, .int v2), (3, .int v3), (4, .int v4), (5, .int v5)], [], LAY, S)
  | 0, _, _, _, _, _,  h => nomatch (show (none : Option (Int32)) = some _ from h)
  | n + 1, v1, v2, v3, v4, v5,  h => X4_lineOf_38_b8_ok hC hF (fun v1 v2 v3 v4 v5 h => X4_lineOf_38_l8_ok hC hF n v1 v2 v3 v4 v5 h) v1 v2 v3 v4 v5 h
def X4_lineOf_38 (N : Nat) (a1 : Int32) (a2 : Int32) (S : aSt) : Option (Int32) := (X4_lineOf_38_l8 N S N a1 a2 (0 : Int32) ((-1) : Int32) (0 : Int32))
set_option maxHeartbeats 4000000 in
set_option maxRecDepth 100000 in
theorem J_X4_lineOf_38 (l : Launch) (g : aWg) (N : Nat) (a1 : Int32) (a2 : Int32) (S : aSt) {r : Int32} (hf : X4_lineOf_38 N a1 a2 S = (some r)) : aJ l g yX4_lineOf M_X4_lineOf [.ref 38, .int a1, .int a2] LAY S (some (.int r)) LAY S 0 0 := by
  refine aJ_of (by decide +kernel) rfl (Nat.le_of_ble_eq_true rfl) (fun h => nomatch h) ?_
  intro C hg hl hC hz hF
  subst hg; subst hl
  have hT := ok_X4_lineOf
  unfold X4_lineOf_38 at hf
  show aX C M_X4_lineOf 0 0 (0, [(0, .ref 38), (1, .int a1), (2, .int a2)], [], LAY, S)
  refine aRun_ok hC hT 6 (cf' := (8, [(5, .int (0 : Int32)), (4, .int ((-1) : Int32)), (3, .int (0 : Int32)), (0, .ref 38), (1, .int a1), (2, .int a2)], [], LAY, S)) (by rfl) ?_
  refine aLocs [3, 4, 5, 2, 1, 0] (lv' := [(0, .ref 38), (1, .int a1), (2, .int a2), (3, .int (0 : Int32)), (4, .int ((-1) : Int32)), (5, .int (0 : Int32))]) rfl ?_
  exact X4_lineOf_38_l8_ok hC hF N a1 a2 (0 : Int32) ((-1) : Int32) (0 : Int32) hf
def X4_leastCost_38 (S : aSt) : Int32 := (aLet (X4_costFrom_38 (0 : Int32) (0 : Int32) S) (fun w1 => w1))
set_option maxHeartbeats 4000000 in
set_option maxRecDepth 100000 in
theorem J_X4_leastCost_38 (l : Launch) (g : aWg) (S : aSt) {r : Int32} (hf : X4_leastCost_38 S = r) : aJ l g yX4_leastCost M_X4_leastCost [.ref 38] LAY S (some (.int r)) LAY S 0 0 := by
  refine aJ_of (by decide +kernel) rfl (Nat.le_of_ble_eq_true rfl) (fun h => nomatch h) ?_
  intro C hg hl hC hz hF
  subst hg; subst hl
  have hT := ok_X4_leastCost
  unfold X4_leastCost_38 at hf
  show aX C M_X4_leastCost 0 0 (0, [(0, .ref 38)], [], LAY, S)
  refine aRun_ok hC hT 3 (cf' := (3, [(0, .ref 38)], [.int (0 : Int32), .int (0 : Int32), .ref 38], LAY, S)) (by rfl) ?_
  obtain ⟨w1, ew2, hf⟩ := aLetE hf
  refine aCallV (b := 38) (As := [.int (0 : Int32), .int (0 : Int32)]) (rest := []) hC hT rfl k_X4_leastCost_35.1 _ _ k_X4_leastCost_35.2 (by decide) (by rfl) (by rfl) (by rfl) (Nat.le_of_ble_eq_true rfl) (by decide) (J_X4_costFrom_38 C.2.2.1 C.1 (0 : Int32) (0 : Int32) S ew2) ?_
  subst hf
  exact aRetI hC hT hF rfl rfl
def X10_match_0 (N : Nat) (a1 : Int32) (a2 : Int32) (S : aSt) : Option (Int32 × aSt) := (if a1 < (0 : Int32) then some ((((-3) : Int32), S)) else (if (12 : Int32) < a1 then some ((((-3) : Int32), S)) else (if (S.1 8 0) < a1 then some ((((-3) : Int32), S)) else (if a2 < ((-1) : Int32) then some ((((-3) : Int32), S)) else (if a2 < a1 then (Option.bind (X4_findLeastCosts_38 N a1 S) (fun w6 => (if a2 = ((-1) : Int32) then (aLet (X4_leastCost_38 w6) (fun w11 => some ((w11, w6)))) else (Option.bind (X4_lineOf_38 N a2 a1 w6) (fun w9 => some ((w9, w6))))))) else some ((((-3) : Int32), S)))))))
set_option maxHeartbeats 4000000 in
set_option maxRecDepth 100000 in
theorem J_X10_match_0 (l : Launch) (g : aWg) (N : Nat) (a1 : Int32) (a2 : Int32) (S : aSt) {r : Int32 × aSt} (hf : X10_match_0 N a1 a2 S = (some r)) : aJ l g yX10_match M_X10_match [.ref 0, .int a1, .int a2] LAY S (some (.int r.1)) LAY r.2 0 0 := by
  refine aJ_of (by decide +kernel) rfl (Nat.le_of_ble_eq_true rfl) (fun h => nomatch h) ?_
  intro C hg hl hC hz hF
  subst hg; subst hl
  have hT := ok_X10_match
  unfold X10_match_0 at hf
  show aX C M_X10_match 0 0 (0, [(0, .ref 0), (1, .int a1), (2, .int a2)], [], LAY, S)
  refine aRun_ok hC hT 1 (cf' := (1, [(0, .ref 0), (1, .int a1), (2, .int a2)], [.int a1], LAY, S)) (by rfl) ?_
  refine aIf_lt hC hT (tgt := 31) rfl (by decide) (fun hc1 => ?_) (fun hc1 => ?_)
  · have hf := aIfT hf hc1
    refine aRun_ok hC hT 1 (cf' := (33, [(0, .ref 0), (1, .int a1), (2, .int a2)], [.int ((-3) : Int32)], LAY, S)) (by rfl) ?_
    have e9 := Option.some.inj hf; subst e9
    exact aRetI hC hT hF rfl rfl
  · have hf := aIfF hf hc1
    refine aRun_ok hC hT 2 (cf' := (7, [(0, .ref 0), (1, .int a1), (2, .int a2)], [.int (12 : Int32), .int a1], LAY, S)) (by rfl) ?_
    refine aCmp_gt hC hT (tgt := 31) rfl (by decide) (fun hc2 => ?_) (fun hc2 => ?_)
    · have hf := aIfT hf hc2
      refine aRun_ok hC hT 1 (cf' := (33, [(0, .ref 0), (1, .int a1), (2, .int a2)], [.int ((-3) : Int32)], LAY, S)) (by rfl) ?_
      have e9 := Option.some.inj hf; subst e9
      exact aRetI hC hT hF rfl rfl
    · have hf := aIfF hf hc2
      refine aRun_ok hC hT 4 (cf' := (18, [(0, .ref 0), (1, .int a1), (2, .int a2)], [.int (S.1 8 0), .int a1], LAY, S)) (by rfl) ?_
      refine aCmp_gt hC hT (tgt := 31) rfl (by decide) (fun hc3 => ?_) (fun hc3 => ?_)
      · have hf := aIfT hf hc3
        refine aRun_ok hC hT 1 (cf' := (33, [(0, .ref 0), (1, .int a1), (2, .int a2)], [.int ((-3) : Int32)], LAY, S)) (by rfl) ?_
        have e9 := Option.some.inj hf; subst e9
        exact aRetI hC hT hF rfl rfl
      · have hf := aIfF hf hc3
        refine aRun_ok hC hT 2 (cf' := (23, [(0, .ref 0), (1, .int a1), (2, .int a2)], [.int ((-1) : Int32), .int a2], LAY, S)) (by rfl) ?_
        refine aCmp_lt hC hT (tgt := 31) rfl (by decide) (fun hc4 => ?_) (fun hc4 => ?_)
        · have hf := aIfT hf hc4
          refine aRun_ok hC hT 1 (cf' := (33, [(0, .ref 0), (1, .int a1), (2, .int a2)], [.int ((-3) : Int32)], LAY, S)) (by rfl) ?_
          have e9 := Option.some.inj hf; subst e9
          exact aRetI hC hT hF rfl rfl
        · have hf := aIfF hf hc4
          refine aRun_ok hC hT 2 (cf' := (28, [(0, .ref 0), (1, .int a1), (2, .int a2)], [.int a1, .int a2], LAY, S)) (by rfl) ?_
          refine aCmp_lt hC hT (tgt := 34) rfl (by decide) (fun hc5 => ?_) (fun hc5 => ?_)
          · have hf := aIfT hf hc5
            refine aRun_ok hC hT 3 (cf' := (39, [(0, .ref 0), (1, .int a1), (2, .int a2)], [.int a1, .ref 38], LAY, S)) (by rfl) ?_
            obtain ⟨w6, ew7, hf⟩ := aBnE hf
            refine aCallV (b := 38) (As := [.int a1]) (rest := []) hC hT rfl k_X10_match_237.1 _ _ k_X10_match_237.2 (by decide) (by rfl) (by rfl) (by rfl) (Nat.le_of_ble_eq_true rfl) (by decide) (J_X4_findLeastCosts_38 C.2.2.1 C.1 N a1 S ew7) ?_
            refine aRun_ok hC hT 2 (cf' := (44, [(0, .ref 0), (1, .int a1), (2, .int a2)], [.int ((-1) : Int32), .int a2], LAY, w6)) (by rfl) ?_
            refine aCmp_ne hC hT (tgt := 57) rfl (by decide) (fun hc8 => ?_) (fun hc8 => ?_)
            · have hf := aIfF hf hc8
              refine aRun_ok hC hT 4 (cf' := (63, [(0, .ref 0), (1, .int a1), (2, .int a2)], [.int a1, .int a2, .ref 38], LAY, w6)) (by rfl) ?_
              obtain ⟨w9, ew10, hf⟩ := aBnE hf
              refine aCallV (b := 38) (As := [.int a2, .int a1]) (rest := []) hC hT rfl k_X10_match_243.1 _ _ k_X10_match_243.2 (by decide) (by rfl) (by rfl) (by rfl) (Nat.le_of_ble_eq_true rfl) (by decide) (J_X4_lineOf_38 C.2.2.1 C.1 N a2 a1 w6 ew10) ?_
              have e9 := Option.some.inj hf; subst e9
              exact aRetI hC hT hF rfl rfl
            · have hf := aIfT hf hc8
              refine aRun_ok hC hT 2 (cf' := (51, [(0, .ref 0), (1, .int a1), (2, .int a2)], [.ref 38], LAY, w6)) (by rfl) ?_
              obtain ⟨w11, ew12, hf⟩ := aLetE hf
              refine aCallV (b := 38) (As := []) (rest := []) hC hT rfl k_X10_match_240.1 _ _ k_X10_match_240.2 (by decide) (by rfl) (by rfl) (by rfl) (Nat.le_of_ble_eq_true rfl) (by decide) (J_X4_leastCost_38 C.2.2.1 C.1  w6 ew12) ?_
              refine aRun_ok hC hT 1 (cf' := (66, [(0, .ref 0), (1, .int a1), (2, .int a2)], [.int w11], LAY, w6)) (by rfl) ?_
              have e9 := Option.some.inj hf; subst e9
              exact aRetI hC hT hF rfl rfl
          · have hf := aIfF hf hc5
            refine aRun_ok hC hT 1 (cf' := (33, [(0, .ref 0), (1, .int a1), (2, .int a2)], [.int ((-3) : Int32)], LAY, S)) (by rfl) ?_
            have e9 := Option.some.inj hf; subst e9
            exact aRetI hC hT hF rfl rfl
def X10_mean_0_b29 (N : Nat) (v2 : Int32) (S : aSt) : Option (Int32 × aSt) := (if (S.1 30 0) = (0 : Int32) then some ((((-4) : Int32), S)) else (Option.bind (X1_lowest N (S.2.1 30 1) (S.2.1 30 2) v2) (fun w8 => some (((w8.toInt32), S)))))
set_option maxHeartbeats 4000000 in
set_option maxRecDepth 100000 in
theorem X10_mean_0_b29_ok {C : aC} {N : Nat} (hC : aCx C M_X10_mean) {r : Int32 × aSt} (hF : aFin C (some (.int r.1)) LAY r.2 0 0) (v2 : Int32) (S : aSt) (hf : X10_mean_0_b29 N v2 S = (some r)) : aX C M_X10_mean 0 0 (29, [(2, .int v2)], [.ref 30], LAY, S) := by
  have hT := ok_X10_mean
  unfold X10_mean_0_b29 at hf
  refine aRun_ok hC hT 3 (cf' := (34, [(3, .ref 30), (2, .int v2)], [.int (S.1 30 0)], LAY, S)) (by rfl) ?_
  refine aIf_ne hC hT (tgt := 40) rfl (by decide) (fun hc7 => ?_) (fun hc7 => ?_)
  · have hf := aIfF hf hc7
    refine aRun_ok hC hT 5 (cf' := (49, [(3, .ref 30), (2, .int v2)], [.int v2, .long (S.2.1 30 2), .long (S.2.1 30 1)], LAY, S)) (by rfl) ?_
    obtain ⟨w8, ew9, hf⟩ := aBnE hf
    refine aCallS (As := [.long (S.2.1 30 1), .long (S.2.1 30 2), .int v2]) (rest := []) hC hT rfl k_X10_mean_207.1 _ k_X10_mean_207.2 (by rfl) (Nat.le_of_ble_eq_true rfl) (by decide) (J_X1_lowest C.2.2.1 C.1 N (S.2.1 30 1) (S.2.1 30 2) v2 S ew9) ?_
    refine aRun_ok hC hT 1 (cf' := (53, [(3, .ref 30), (2, .int v2)], [.int (w8.toInt32)], LAY, S)) (by rfl) ?_
    have e9 := Option.some.inj hf; subst e9
    exact aRetI hC hT hF rfl rfl
  · have hf := aIfT hf hc7
    refine aRun_ok hC hT 1 (cf' := (39, [(3, .ref 30), (2, .int v2)], [.int ((-4) : Int32)], LAY, S)) (by rfl) ?_
    have e9 := Option.some.inj hf; subst e9
    exact aRetI hC hT hF rfl rfl
def X10_mean_0_b29b (N : Nat) (v2 : Int32) (S : aSt) : Option (Int32 × aSt) := (if (S.1 34 0) = (0 : Int32) then some ((((-4) : Int32), S)) else (Option.bind (X1_lowest N (S.2.1 34 1) (S.2.1 34 2) v2) (fun w11 => some (((w11.toInt32), S)))))
set_option maxHeartbeats 4000000 in
set_option maxRecDepth 100000 in
theorem X10_mean_0_b29b_ok {C : aC} {N : Nat} (hC : aCx C M_X10_mean) {r : Int32 × aSt} (hF : aFin C (some (.int r.1)) LAY r.2 0 0) (v2 : Int32) (S : aSt) (hf : X10_mean_0_b29b N v2 S = (some r)) : aX C M_X10_mean 0 0 (29, [(2, .int v2)], [.ref 34], LAY, S) := by
  have hT := ok_X10_mean
  unfold X10_mean_0_b29b at hf
  refine aRun_ok hC hT 3 (cf' := (34, [(3, .ref 34), (2, .int v2)], [.int (S.1 34 0)], LAY, S)) (by rfl) ?_
  refine aIf_ne hC hT (tgt := 40) rfl (by decide) (fun hc10 => ?_) (fun hc10 => ?_)
  · have hf := aIfF hf hc10
    refine aRun_ok hC hT 5 (cf' := (49, [(3, .ref 34), (2, .int v2)], [.int v2, .long (S.2.1 34 2), .long (S.2.1 34 1)], LAY, S)) (by rfl) ?_
    obtain ⟨w11, ew12, hf⟩ := aBnE hf
    refine aCallS (As := [.long (S.2.1 34 1), .long (S.2.1 34 2), .int v2]) (rest := []) hC hT rfl k_X10_mean_207.1 _ k_X10_mean_207.2 (by rfl) (Nat.le_of_ble_eq_true rfl) (by decide) (J_X1_lowest C.2.2.1 C.1 N (S.2.1 34 1) (S.2.1 34 2) v2 S ew12) ?_
    refine aRun_ok hC hT 1 (cf' := (53, [(3, .ref 34), (2, .int v2)], [.int (w11.toInt32)], LAY, S)) (by rfl) ?_
    have e9 := Option.some.inj hf; subst e9
    exact aRetI hC hT hF rfl rfl
  · have hf := aIfT hf hc10
    refine aRun_ok hC hT 1 (cf' := (39, [(3, .ref 34), (2, .int v2)], [.int ((-4) : Int32)], LAY, S)) (by rfl) ?_
    have e9 := Option.some.inj hf; subst e9
    exact aRetI hC hT hF rfl rfl
def X10_mean_0 (N : Nat) (a1 : Int32) (a2 : Int32) (S : aSt) : Option (Int32 × aSt) := (aLet (X10_isPart a2) (fun w1 => (if w1 = (0 : Int32) then some ((((-3) : Int32), S)) else (Option.bind (X10_workOut_0 N S) (fun w4 => (if a1 = (0 : Int32) then (X10_mean_0_b29 N a2 w4) else (X10_mean_0_b29b N a2 w4)))))))
set_option maxHeartbeats 4000000 in
set_option maxRecDepth 100000 in
theorem J_X10_mean_0 (l : Launch) (g : aWg) (N : Nat) (a1 : Int32) (a2 : Int32) (S : aSt) {r : Int32 × aSt} (hf : X10_mean_0 N a1 a2 S = (some r)) : aJ l g yX10_mean M_X10_mean [.ref 0, .int a1, .int a2] LAY S (some (.int r.1)) LAY r.2 0 0 := by
  refine aJ_of (by decide +kernel) rfl (Nat.le_of_ble_eq_true rfl) (fun h => nomatch h) ?_
  intro C hg hl hC hz hF
  subst hg; subst hl
  have hT := ok_X10_mean
  unfold X10_mean_0 at hf
  show aX C M_X10_mean 0 0 (0, [(0, .ref 0), (1, .int a1), (2, .int a2)], [], LAY, S)
  refine aRun_ok hC hT 1 (cf' := (1, [(0, .ref 0), (1, .int a1), (2, .int a2)], [.int a2], LAY, S)) (by rfl) ?_
  obtain ⟨w1, ew2, hf⟩ := aLetE hf
  refine aCallS (As := [.int a2]) (rest := []) hC hT rfl k_X10_mean_197.1 _ k_X10_mean_197.2 (by rfl) (Nat.le_of_ble_eq_true rfl) (by decide) (J_X10_isPart C.2.2.1 C.1 a2 S ew2) ?_
  refine aIf_ne hC hT (tgt := 10) rfl (by decide) (fun hc3 => ?_) (fun hc3 => ?_)
  · have hf := aIfF hf hc3
    refine aRun_ok hC hT 1 (cf' := (11, [(0, .ref 0), (1, .int a1), (2, .int a2)], [.ref 0], LAY, S)) (by rfl) ?_
    obtain ⟨w4, ew5, hf⟩ := aBnE hf
    refine aCallV (b := 0) (As := []) (rest := []) hC hT rfl k_X10_mean_169.1 _ _ k_X10_mean_169.2 (by decide) (by rfl) (by rfl) (by rfl) (Nat.le_of_ble_eq_true rfl) (by decide) (J_X10_workOut_0 C.2.2.1 C.1 N  S ew5) ?_
    refine aRun_ok hC hT 1 (cf' := (15, [(0, .ref 0), (1, .int a1), (2, .int a2)], [.int a1], LAY, w4)) (by rfl) ?_
    refine aIf_eq hC hT (tgt := 25) rfl (by decide) (fun hc6 => ?_) (fun hc6 => ?_)
    · have hf := aIfT hf hc6
      refine aRun_ok hC hT 2 (cf' := (29, [(0, .ref 0), (1, .int a1), (2, .int a2)], [.ref 30], LAY, w4)) (by rfl) ?_
      refine aLocs [2] (lv' := [(2, .int a2)]) rfl ?_
      exact X10_mean_0_b29_ok hC hF a2 w4 hf
    · have hf := aIfF hf hc6
      refine aRun_ok hC hT 3 (cf' := (29, [(0, .ref 0), (1, .int a1), (2, .int a2)], [.ref 34], LAY, w4)) (by rfl) ?_
      refine aLocs [2] (lv' := [(2, .int a2)]) rfl ?_
      exact X10_mean_0_b29b_ok hC hF a2 w4 hf
  · have hf := aIfT hf hc3
    refine aRun_ok hC hT 1 (cf' := (9, [(0, .ref 0), (1, .int a1), (2, .int a2)], [.int ((-3) : Int32)], LAY, S)) (by rfl) ?_
    have e9 := Option.some.inj hf; subst e9
    exact aRetI hC hT hF rfl rfl
def X2_change_8 (a1 : Int32) (a2 : Int32) (a3 : Int32) (S : aSt) : aSt := (aLet (X2_setPart_8 a1 (0 : Int32) a2 S) (fun w1 => (aLet (X2_setPart_8 a1 (1 : Int32) a3 w1) (fun w3 => (aI w3 8 4 ((w3.1 8 4) + (1 : Int32)))))))
set_option maxHeartbeats 4000000 in
set_option maxRecDepth 100000 in
theorem J_X2_change_8 (l : Launch) (g : aWg) (a1 : Int32) (a2 : Int32) (a3 : Int32) (S : aSt) {r : aSt} (hf : X2_change_8 a1 a2 a3 S = r) : aJ l g yX2_change M_X2_change [.ref 8, .int a1, .int a2, .int a3] LAY S none LAY r 0 0 := by
  refine aJ_of (by decide +kernel) rfl (Nat.le_of_ble_eq_true rfl) (fun h => nomatch h) ?_
  intro C hg hl hC hz hF
  subst hg; subst hl
  have hT := ok_X2_change
  unfold X2_change_8 at hf
  show aX C M_X2_change 0 0 (0, [(0, .ref 8), (1, .int a1), (2, .int a2), (3, .int a3)], [], LAY, S)
  refine aRun_ok hC hT 4 (cf' := (4, [(0, .ref 8), (1, .int a1), (2, .int a2), (3, .int a3)], [.int a2, .int (0 : Int32), .int a1, .ref 8], LAY, S)) (by rfl) ?_
  obtain ⟨w1, ew2, hf⟩ := aLetE hf
  refine aCallV (b := 8) (As := [.int a1, .int (0 : Int32), .int a2]) (rest := []) hC hT rfl k_X2_change_68.1 _ _ k_X2_change_68.2 (by decide) (by rfl) (by rfl) (by rfl) (Nat.le_of_ble_eq_true rfl) (by decide) (J_X2_setPart_8 C.2.2.1 C.1 a1 (0 : Int32) a2 S ew2) ?_
  refine aRun_ok hC hT 4 (cf' := (11, [(0, .ref 8), (1, .int a1), (2, .int a2), (3, .int a3)], [.int a3, .int (1 : Int32), .int a1, .ref 8], LAY, w1)) (by rfl) ?_
  obtain ⟨w3, ew4, hf⟩ := aLetE hf
  refine aCallV (b := 8) (As := [.int a1, .int (1 : Int32), .int a3]) (rest := []) hC hT rfl k_X2_change_68.1 _ _ k_X2_change_68.2 (by decide) (by rfl) (by rfl) (by rfl) (Nat.le_of_ble_eq_true rfl) (by decide) (J_X2_setPart_8 C.2.2.1 C.1 a1 (1 : Int32) a3 w1 ew4) ?_
  refine aRun_ok hC hT 6 (cf' := (24, [(0, .ref 8), (1, .int a1), (2, .int a2), (3, .int a3)], [], LAY, (aI w3 8 4 ((w3.1 8 4) + (1 : Int32))))) (by rfl) ?_
  subst hf
  exact aRetV hC hT hF rfl rfl
def X10_mend_0 (N : Nat) (a1 : Int32) (a2 : Int32) (a3 : Int32) (S : aSt) : Option (Int32 × aSt) := (aLet (X2_holds_8 a1 S) (fun w1 => (if w1 = (0 : Int32) then some ((((-2) : Int32), S)) else (aLet (X10_isSide a2) (fun w4 => (if w4 = (0 : Int32) then some ((((-3) : Int32), S)) else (aLet (X10_isSum a3) (fun w7 => (if w7 = (0 : Int32) then some ((((-3) : Int32), S)) else (aLet (X2_change_8 a1 a2 a3 S) (fun w10 => (Option.bind (X2_outOf_8 N ((-1) : Int32) w10) (fun w12 => some (((w12 + (50000000 : Int32)), w10)))))))))))))))
set_option maxHeartbeats 4000000 in
set_option maxRecDepth 100000 in
theorem J_X10_mend_0 (l : Launch) (g : aWg) (N : Nat) (a1 : Int32) (a2 : Int32) (a3 : Int32) (S : aSt) {r : Int32 × aSt} (hf : X10_mend_0 N a1 a2 a3 S = (some r)) : aJ l g yX10_mend M_X10_mend [.ref 0, .int a1, .int a2, .int a3] LAY S (some (.int r.1)) LAY r.2 0 0 := by
  refine aJ_of (by decide +kernel) rfl (Nat.le_of_ble_eq_true rfl) (fun h => nomatch h) ?_
  intro C hg hl hC hz hF
  subst hg; subst hl
  have hT := ok_X10_mend
  unfold X10_mend_0 at hf
  show aX C M_X10_mend 0 0 (0, [(0, .ref 0), (1, .int a1), (2, .int a2), (3, .int a3)], [], LAY, S)
  refine aRun_ok hC hT 3 (cf' := (5, [(0, .ref 0), (1, .int a1), (2, .int a2), (3, .int a3)], [.int a1, .ref 8], LAY, S)) (by rfl) ?_
  obtain ⟨w1, ew2, hf⟩ := aLetE hf
  refine aCallV (b := 8) (As := [.int a1]) (rest := []) hC hT rfl k_X10_mend_99.1 _ _ k_X10_mend_99.2 (by decide) (by rfl) (by rfl) (by rfl) (Nat.le_of_ble_eq_true rfl) (by decide) (J_X2_holds_8 C.2.2.1 C.1 a1 S ew2) ?_
  refine aIf_ne hC hT (tgt := 14) rfl (by decide) (fun hc3 => ?_) (fun hc3 => ?_)
  · have hf := aIfF hf hc3
    refine aRun_ok hC hT 1 (cf' := (15, [(0, .ref 0), (1, .int a1), (2, .int a2), (3, .int a3)], [.int a2], LAY, S)) (by rfl) ?_
    obtain ⟨w4, ew5, hf⟩ := aLetE hf
    refine aCallS (As := [.int a2]) (rest := []) hC hT rfl k_X10_mend_139.1 _ k_X10_mend_139.2 (by rfl) (Nat.le_of_ble_eq_true rfl) (by decide) (J_X10_isSide C.2.2.1 C.1 a2 S ew5) ?_
    refine aIf_eq hC hT (tgt := 28) rfl (by decide) (fun hc6 => ?_) (fun hc6 => ?_)
    · have hf := aIfT hf hc6
      refine aRun_ok hC hT 1 (cf' := (30, [(0, .ref 0), (1, .int a1), (2, .int a2), (3, .int a3)], [.int ((-3) : Int32)], LAY, S)) (by rfl) ?_
      have e9 := Option.some.inj hf; subst e9
      exact aRetI hC hT hF rfl rfl
    · have hf := aIfF hf hc6
      refine aRun_ok hC hT 1 (cf' := (22, [(0, .ref 0), (1, .int a1), (2, .int a2), (3, .int a3)], [.int a3], LAY, S)) (by rfl) ?_
      obtain ⟨w7, ew8, hf⟩ := aLetE hf
      refine aCallS (As := [.int a3]) (rest := []) hC hT rfl k_X10_mend_142.1 _ k_X10_mend_142.2 (by rfl) (Nat.le_of_ble_eq_true rfl) (by decide) (J_X10_isSum C.2.2.1 C.1 a3 S ew8) ?_
      refine aIf_ne hC hT (tgt := 31) rfl (by decide) (fun hc9 => ?_) (fun hc9 => ?_)
      · have hf := aIfF hf hc9
        refine aRun_ok hC hT 5 (cf' := (38, [(0, .ref 0), (1, .int a1), (2, .int a2), (3, .int a3)], [.int a3, .int a2, .int a1, .ref 8], LAY, S)) (by rfl) ?_
        obtain ⟨w10, ew11, hf⟩ := aLetE hf
        refine aCallV (b := 8) (As := [.int a1, .int a2, .int a3]) (rest := []) hC hT rfl k_X10_mend_145.1 _ _ k_X10_mend_145.2 (by decide) (by rfl) (by rfl) (by rfl) (Nat.le_of_ble_eq_true rfl) (by decide) (J_X2_change_8 C.2.2.1 C.1 a1 a2 a3 S ew11) ?_
        refine aRun_ok hC hT 3 (cf' := (46, [(0, .ref 0), (1, .int a1), (2, .int a2), (3, .int a3)], [.int ((-1) : Int32), .ref 8], LAY, w10)) (by rfl) ?_
        obtain ⟨w12, ew13, hf⟩ := aBnE hf
        refine aCallV (b := 8) (As := [.int ((-1) : Int32)]) (rest := []) hC hT rfl k_X10_mend_110.1 _ _ k_X10_mend_110.2 (by decide) (by rfl) (by rfl) (by rfl) (Nat.le_of_ble_eq_true rfl) (by decide) (J_X2_outOf_8 C.2.2.1 C.1 N ((-1) : Int32) w10 ew13) ?_
        refine aRun_ok hC hT 2 (cf' := (52, [(0, .ref 0), (1, .int a1), (2, .int a2), (3, .int a3)], [.int (w12 + (50000000 : Int32))], LAY, w10)) (by rfl) ?_
        have e9 := Option.some.inj hf; subst e9
        exact aRetI hC hT hF rfl rfl
      · have hf := aIfT hf hc9
        refine aRun_ok hC hT 1 (cf' := (30, [(0, .ref 0), (1, .int a1), (2, .int a2), (3, .int a3)], [.int ((-3) : Int32)], LAY, S)) (by rfl) ?_
        have e9 := Option.some.inj hf; subst e9
        exact aRetI hC hT hF rfl rfl
  · have hf := aIfT hf hc3
    refine aRun_ok hC hT 1 (cf' := (13, [(0, .ref 0), (1, .int a1), (2, .int a2), (3, .int a3)], [.int ((-2) : Int32)], LAY, S)) (by rfl) ?_
    have e9 := Option.some.inj hf; subst e9
    exact aRetI hC hT hF rfl rfl
def X10_odds_0 (a1 : Int32) (a2 : Int32) (S : aSt) : Int32 := (aLet (X10_isHand a1) (fun w1 => (if w1 = (0 : Int32) then ((-2) : Int32) else (aLet (X10_isEntryKind a2) (fun w4 => (if w4 = (0 : Int32) then ((-2) : Int32) else (aLet (X2_oddsOf_8 a1 a2 S) (fun w7 => w7))))))))
set_option maxHeartbeats 4000000 in
set_option maxRecDepth 100000 in
theorem J_X10_odds_0 (l : Launch) (g : aWg) (a1 : Int32) (a2 : Int32) (S : aSt) {r : Int32} (hf : X10_odds_0 a1 a2 S = r) : aJ l g yX10_odds M_X10_odds [.ref 0, .int a1, .int a2] LAY S (some (.int r)) LAY S 0 0 := by
  refine aJ_of (by decide +kernel) rfl (Nat.le_of_ble_eq_true rfl) (fun h => nomatch h) ?_
  intro C hg hl hC hz hF
  subst hg; subst hl
  have hT := ok_X10_odds
  unfold X10_odds_0 at hf
  show aX C M_X10_odds 0 0 (0, [(0, .ref 0), (1, .int a1), (2, .int a2)], [], LAY, S)
  refine aRun_ok hC hT 1 (cf' := (1, [(0, .ref 0), (1, .int a1), (2, .int a2)], [.int a1], LAY, S)) (by rfl) ?_
  obtain ⟨w1, ew2, hf⟩ := aLetE hf
  refine aCallS (As := [.int a1]) (rest := []) hC hT rfl k_X10_odds_121.1 _ k_X10_odds_121.2 (by rfl) (Nat.le_of_ble_eq_true rfl) (by decide) (J_X10_isHand C.2.2.1 C.1 a1 S ew2) ?_
  refine aIf_eq hC hT (tgt := 14) rfl (by decide) (fun hc3 => ?_) (fun hc3 => ?_)
  · have hf := aIfT hf hc3
    refine aRun_ok hC hT 1 (cf' := (16, [(0, .ref 0), (1, .int a1), (2, .int a2)], [.int ((-2) : Int32)], LAY, S)) (by rfl) ?_
    subst hf
    exact aRetI hC hT hF rfl rfl
  · have hf := aIfF hf hc3
    refine aRun_ok hC hT 1 (cf' := (8, [(0, .ref 0), (1, .int a1), (2, .int a2)], [.int a2], LAY, S)) (by rfl) ?_
    obtain ⟨w4, ew5, hf⟩ := aLetE hf
    refine aCallS (As := [.int a2]) (rest := []) hC hT rfl k_X10_odds_124.1 _ k_X10_odds_124.2 (by rfl) (Nat.le_of_ble_eq_true rfl) (by decide) (J_X10_isEntryKind C.2.2.1 C.1 a2 S ew5) ?_
    refine aIf_ne hC hT (tgt := 17) rfl (by decide) (fun hc6 => ?_) (fun hc6 => ?_)
    · have hf := aIfF hf hc6
      refine aRun_ok hC hT 4 (cf' := (23, [(0, .ref 0), (1, .int a1), (2, .int a2)], [.int a2, .int a1, .ref 8], LAY, S)) (by rfl) ?_
      obtain ⟨w7, ew8, hf⟩ := aLetE hf
      refine aCallV (b := 8) (As := [.int a1, .int a2]) (rest := []) hC hT rfl k_X10_odds_127.1 _ _ k_X10_odds_127.2 (by decide) (by rfl) (by rfl) (by rfl) (Nat.le_of_ble_eq_true rfl) (by decide) (J_X2_oddsOf_8 C.2.2.1 C.1 a1 a2 S ew8) ?_
      subst hf
      exact aRetI hC hT hF rfl rfl
    · have hf := aIfT hf hc6
      refine aRun_ok hC hT 1 (cf' := (16, [(0, .ref 0), (1, .int a1), (2, .int a2)], [.int ((-2) : Int32)], LAY, S)) (by rfl) ?_
      subst hf
      exact aRetI hC hT hF rfl rfl
def X7_manyOf_22_b31 (N : Nat) (S : aSt) (rec4 : Int32 → Int32 → Int32 → Option (Int32)) (v1 : Int32) (v2 : Int32) (v3 : Int32) : Option (Int32) := (rec4 v1 v2 (v3 + (1 : Int32)))
set_option maxHeartbeats 4000000 in
set_option maxRecDepth 100000 in
theorem X7_manyOf_22_b31_ok {C : aC} {N : Nat} {S : aSt} {rec4 : Int32 → Int32 → Int32 → Option (Int32)} (hC : aCx C M_X7_manyOf) {r : Int32} (hF : aFin C (some (.int r)) LAY S 0 0) (hrec4 : ∀ (v1 : Int32) (v2 : Int32) (v3 : Int32), rec4 v1 v2 v3 = (some r) → aX C M_X7_manyOf 0 0 (4, [(0, .ref 22), (1, .int v1), (2, .int v2), (3, .int v3)], [], LAY, S)) (v1 : Int32) (v2 : Int32) (v3 : Int32) (hf : X7_manyOf_22_b31 N S rec4 v1 v2 v3 = (some r)) : aX C M_X7_manyOf 0 0 (31, [(0, .ref 22), (1, .int v1), (2, .int v2), (3, .int v3)], [], LAY, S) := by
  have hT := ok_X7_manyOf
  unfold X7_manyOf_22_b31 at hf
  refine aRun_ok hC hT 2 (cf' := (4, [(3, .int (v3 + (1 : Int32))), (0, .ref 22), (1, .int v1), (2, .int v2)], [], LAY, S)) (by rfl) ?_
  refine aLocs [1, 2, 3, 0] (lv' := [(0, .ref 22), (1, .int v1), (2, .int v2), (3, .int (v3 + (1 : Int32)))]) rfl ?_
  exact hrec4 v1 v2 (v3 + (1 : Int32)) hf
def X7_manyOf_22_b4 (N : Nat) (S : aSt) (rec4 : Int32 → Int32 → Int32 → Option (Int32)) (v1 : Int32) (v2 : Int32) (v3 : Int32) : Option (Int32) := (if (S.1 22 0) ≤ v3 then some (v2) else (aLet (X7_slip_22 v3 S) (fun w2 => (aLet (X8_kind_14 w2 S) (fun w4 => (if w4 = v1 then (X7_manyOf_22_b31 N S rec4 v1 (v2 + (1 : Int32)) v3) else (X7_manyOf_22_b31 N S rec4 v1 v2 v3)))))))
set_option maxHeartbeats 4000000 in
set_option maxRecDepth 100000 in
theorem X7_manyOf_22_b4_ok {C : aC} {N : Nat} {S : aSt} {rec4 : Int32 → Int32 → Int32 → Option (Int32)} (hC : aCx C M_X7_manyOf) {r : Int32} (hF : aFin C (some (.int r)) LAY S 0 0) (hrec4 : ∀ (v1 : Int32) (v2 : Int32) (v3 : Int32), rec4 v1 v2 v3 = (some r) → aX C M_X7_manyOf 0 0 (4, [(0, .ref 22), (1, .int v1), (2, .int v2), (3, .int v3)], [], LAY, S)) (v1 : Int32) (v2 : Int32) (v3 : Int32) (hf : X7_manyOf_22_b4 N S rec4 v1 v2 v3 = (some r)) : aX C M_X7_manyOf 0 0 (4, [(0, .ref 22), (1, .int v1), (2, .int v2), (3, .int v3)], [], LAY, S) := by
  have hT := ok_X7_manyOf
  unfold X7_manyOf_22_b4 at hf
  refine aRun_ok hC hT 3 (cf' := (9, [(0, .ref 22), (1, .int v1), (2, .int v2), (3, .int v3)], [.int (S.1 22 0), .int v3], LAY, S)) (by rfl) ?_
  refine aCmp_ge hC hT (tgt := 37) rfl (by decide) (fun hc1 => ?_) (fun hc1 => ?_)
  · have hf := aIfT hf hc1
    refine aRun_ok hC hT 1 (cf' := (38, [(0, .ref 22), (1, .int v1), (2, .int v2), (3, .int v3)], [.int v2], LAY, S)) (by rfl) ?_
    have e9 := Option.some.inj hf; subst e9
    exact aRetI hC hT hF rfl rfl
  · have hf := aIfF hf hc1
    refine aRun_ok hC hT 4 (cf' := (18, [(0, .ref 22), (1, .int v1), (2, .int v2), (3, .int v3)], [.int v3, .ref 22, .ref 14], LAY, S)) (by rfl) ?_
    obtain ⟨w2, ew3, hf⟩ := aLetE hf
    refine aCallV (b := 22) (As := [.int v3]) (rest := [.ref 14]) hC hT rfl k_X7_manyOf_67.1 _ _ k_X7_manyOf_67.2 (by decide) (by rfl) (by rfl) (by rfl) (Nat.le_of_ble_eq_true rfl) (by decide) (J_X7_slip_22 C.2.2.1 C.1 v3 S ew3) ?_
    obtain ⟨w4, ew5, hf⟩ := aLetE hf
    refine aCallV (b := 14) (As := [.int w2]) (rest := []) hC hT rfl k_X7_manyOf_70.1 _ _ k_X7_manyOf_70.2 (by decide) (by rfl) (by rfl) (by rfl) (Nat.le_of_ble_eq_true rfl) (by decide) (J_X8_kind_14 C.2.2.1 C.1 w2 S ew5) ?_
    refine aRun_ok hC hT 1 (cf' := (25, [(0, .ref 22), (1, .int v1), (2, .int v2), (3, .int v3)], [.int v1, .int w4], LAY, S)) (by rfl) ?_
    refine aCmp_ne hC hT (tgt := 31) rfl (by decide) (fun hc6 => ?_) (fun hc6 => ?_)
    · have hf := aIfF hf hc6
      exact X7_manyOf_22_b31_ok hC hF hrec4 v1 v2 v3 hf
    · have hf := aIfT hf hc6
      refine aRun_ok hC hT 1 (cf' := (31, [(2, .int (v2 + (1 : Int32))), (0, .ref 22), (1, .int v1), (3, .int v3)], [], LAY, S)) (by rfl) ?_
      refine aLocs [1, 2, 0, 3] (lv' := [(0, .ref 22), (1, .int v1), (2, .int (v2 + (1 : Int32))), (3, .int v3)]) rfl ?_
      exact X7_manyOf_22_b31_ok hC hF hrec4 v1 (v2 + (1 : Int32)) v3 hf
def X7_manyOf_22_l4 (N : Nat) (S : aSt) : Nat → Int32 → Int32 → Int32 → Option (Int32)
  | 0 => fun _ _ _ => none
  | n + 1 => X7_manyOf_22_b4 N S (X7_manyOf_22_l4 N S n)
theorem X7_manyOf_22_l4_ok {C : aC} {N : Nat} {S : aSt} (hC : aCx C M_X7_manyOf) {r : Int32} (hF : aFin C (some (.int r)) LAY S 0 0) : ∀ (n : Nat) (v1 : Int32) (v2 : Int32) (v3 : Int32), X7_manyOf_22_l4 N S n v1 v2 v3 = (some r) → aX C M_X7_manyOf 0 0 (4, [(0, .ref 22), (1, .int v1), (2, .int v2), (3, .int v3)], [], LAY, S)
  | 0, _, _, _,  h => nomatch (show (none : Option (Int32)) = some _ from h)
  | n + 1, v1, v2, v3,  h => X7_manyOf_22_b4_ok hC hF (fun v1 v2 v3 h => X7_manyOf_22_l4_ok hC hF n v1 v2 v3 h) v1 v2 v3 h
def X7_manyOf_22 (N : Nat) (a1 : Int32) (S : aSt) : Option (Int32) := (X7_manyOf_22_l4 N S N a1 (0 : Int32) (0 : Int32))
set_option maxHeartbeats 4000000 in
set_option maxRecDepth 100000 in
theorem J_X7_manyOf_22 (l : Launch) (g : aWg) (N : Nat) (a1 : Int32) (S : aSt) {r : Int32} (hf : X7_manyOf_22 N a1 S = (some r)) : aJ l g yX7_manyOf M_X7_manyOf [.ref 22, .int a1] LAY S (some (.int r)) LAY S 0 0 := by
  refine aJ_of (by decide +kernel) rfl (Nat.le_of_ble_eq_true rfl) (fun h => nomatch h) ?_
  intro C hg hl hC hz hF
  subst hg; subst hl
  have hT := ok_X7_manyOf
  unfold X7_manyOf_22 at hf
  show aX C M_X7_manyOf 0 0 (0, [(0, .ref 22), (1, .int a1)], [], LAY, S)
  refine aRun_ok hC hT 4 (cf' := (4, [(3, .int (0 : Int32)), (2, .int (0 : Int32)), (0, .ref 22), (1, .int a1)], [], LAY, S)) (by rfl) ?_
  refine aLocs [2, 3, 1, 0] (lv' := [(0, .ref 22), (1, .int a1), (2, .int (0 : Int32)), (3, .int (0 : Int32))]) rfl ?_
  exact X7_manyOf_22_l4_ok hC hF N a1 (0 : Int32) (0 : Int32) hf
def X10_ofKind_0 (N : Nat) (a1 : Int32) (S : aSt) : Option (Int32 × aSt) := (if a1 < (0 : Int32) then some ((((-2) : Int32), S)) else (if a1 < (7 : Int32) then (Option.bind (X10_workOut_0 N S) (fun w3 => (Option.bind (X7_manyOf_22 N a1 w3) (fun w5 => some ((w5, w3)))))) else some ((((-2) : Int32), S))))
set_option maxHeartbeats 4000000 in
set_option maxRecDepth 100000 in
theorem J_X10_ofKind_0 (l : Launch) (g : aWg) (N : Nat) (a1 : Int32) (S : aSt) {r : Int32 × aSt} (hf : X10_ofKind_0 N a1 S = (some r)) : aJ l g yX10_ofKind M_X10_ofKind [.ref 0, .int a1] LAY S (some (.int r.1)) LAY r.2 0 0 := by
  refine aJ_of (by decide +kernel) rfl (Nat.le_of_ble_eq_true rfl) (fun h => nomatch h) ?_
  intro C hg hl hC hz hF
  subst hg; subst hl
  have hT := ok_X10_ofKind
  unfold X10_ofKind_0 at hf
  show aX C M_X10_ofKind 0 0 (0, [(0, .ref 0), (1, .int a1)], [], LAY, S)
  refine aRun_ok hC hT 1 (cf' := (1, [(0, .ref 0), (1, .int a1)], [.int a1], LAY, S)) (by rfl) ?_
  refine aIf_lt hC hT (tgt := 10) rfl (by decide) (fun hc1 => ?_) (fun hc1 => ?_)
  · have hf := aIfT hf hc1
    refine aRun_ok hC hT 1 (cf' := (12, [(0, .ref 0), (1, .int a1)], [.int ((-2) : Int32)], LAY, S)) (by rfl) ?_
    have e9 := Option.some.inj hf; subst e9
    exact aRetI hC hT hF rfl rfl
  · have hf := aIfF hf hc1
    refine aRun_ok hC hT 2 (cf' := (7, [(0, .ref 0), (1, .int a1)], [.int (7 : Int32), .int a1], LAY, S)) (by rfl) ?_
    refine aCmp_lt hC hT (tgt := 13) rfl (by decide) (fun hc2 => ?_) (fun hc2 => ?_)
    · have hf := aIfT hf hc2
      refine aRun_ok hC hT 1 (cf' := (14, [(0, .ref 0), (1, .int a1)], [.ref 0], LAY, S)) (by rfl) ?_
      obtain ⟨w3, ew4, hf⟩ := aBnE hf
      refine aCallV (b := 0) (As := []) (rest := []) hC hT rfl k_X10_ofKind_169.1 _ _ k_X10_ofKind_169.2 (by decide) (by rfl) (by rfl) (by rfl) (Nat.le_of_ble_eq_true rfl) (by decide) (J_X10_workOut_0 C.2.2.1 C.1 N  S ew4) ?_
      refine aRun_ok hC hT 3 (cf' := (22, [(0, .ref 0), (1, .int a1)], [.int a1, .ref 22], LAY, w3)) (by rfl) ?_
      obtain ⟨w5, ew6, hf⟩ := aBnE hf
      refine aCallV (b := 22) (As := [.int a1]) (rest := []) hC hT rfl k_X10_ofKind_177.1 _ _ k_X10_ofKind_177.2 (by decide) (by rfl) (by rfl) (by rfl) (Nat.le_of_ble_eq_true rfl) (by decide) (J_X7_manyOf_22 C.2.2.1 C.1 N a1 w3 ew6) ?_
      have e9 := Option.some.inj hf; subst e9
      exact aRetI hC hT hF rfl rfl
    · have hf := aIfF hf hc2
      refine aRun_ok hC hT 1 (cf' := (12, [(0, .ref 0), (1, .int a1)], [.int ((-2) : Int32)], LAY, S)) (by rfl) ?_
      have e9 := Option.some.inj hf; subst e9
      exact aRetI hC hT hF rfl rfl
def X10_isPage (a0 : Int32) : Int32 := (if a0 < (0 : Int32) then (0 : Int32) else (if (6 : Int32) ≤ a0 then (0 : Int32) else (1 : Int32)))
set_option maxHeartbeats 4000000 in
set_option maxRecDepth 100000 in
theorem J_X10_isPage (l : Launch) (g : aWg) (a0 : Int32) (S : aSt) {r : Int32} (hf : X10_isPage a0 = r) : aJ l g yX10_isPage M_X10_isPage [.int a0] LAY S (some (.int r)) LAY S 0 0 := by
  refine aJ_of (by decide +kernel) rfl (Nat.le_of_ble_eq_true rfl) (fun h => nomatch h) ?_
  intro C hg hl hC hz hF
  subst hg; subst hl
  have hT := ok_X10_isPage
  unfold X10_isPage at hf
  show aX C M_X10_isPage 0 0 (0, [(0, .int a0)], [], LAY, S)
  refine aRun_ok hC hT 1 (cf' := (1, [(0, .int a0)], [.int a0], LAY, S)) (by rfl) ?_
  refine aIf_lt hC hT (tgt := 14) rfl (by decide) (fun hc1 => ?_) (fun hc1 => ?_)
  · have hf := aIfT hf hc1
    refine aRun_ok hC hT 1 (cf' := (15, [(0, .int a0)], [.int (0 : Int32)], LAY, S)) (by rfl) ?_
    subst hf
    exact aRetB hC hT hF rfl (Or.inl rfl) rfl
  · have hf := aIfF hf hc1
    refine aRun_ok hC hT 2 (cf' := (7, [(0, .int a0)], [.int (6 : Int32), .int a0], LAY, S)) (by rfl) ?_
    refine aCmp_ge hC hT (tgt := 14) rfl (by decide) (fun hc2 => ?_) (fun hc2 => ?_)
    · have hf := aIfT hf hc2
      refine aRun_ok hC hT 1 (cf' := (15, [(0, .int a0)], [.int (0 : Int32)], LAY, S)) (by rfl) ?_
      subst hf
      exact aRetB hC hT hF rfl (Or.inl rfl) rfl
    · have hf := aIfF hf hc2
      refine aRun_ok hC hT 2 (cf' := (15, [(0, .int a0)], [.int (1 : Int32)], LAY, S)) (by rfl) ?_
      subst hf
      exact aRetB hC hT hF rfl (Or.inr rfl) rfl
def X10_off_0 (N : Nat) (a1 : Int32) (S : aSt) : Option (Int32) := (aLet (X10_isPage a1) (fun w1 => (if w1 = (0 : Int32) then some (((-2) : Int32)) else (aLet (X2_hasDue_8 a1 S) (fun w4 => (if w4 = (0 : Int32) then some (((-1) : Int32)) else (Option.bind (X2_outOf_8 N a1 S) (fun w7 => (aLet (X2_dueOf_8 a1 S) (fun w9 => some (((w7 - w9) + (50000000 : Int32)))))))))))))
set_option maxHeartbeats 4000000 in
set_option maxRecDepth 100000 in
theorem J_X10_off_0 (l : Launch) (g : aWg) (N : Nat) (a1 : Int32) (S : aSt) {r : Int32} (hf : X10_off_0 N a1 S = (some r)) : aJ l g yX10_off M_X10_off [.ref 0, .int a1] LAY S (some (.int r)) LAY S 0 0 := by
  refine aJ_of (by decide +kernel) rfl (Nat.le_of_ble_eq_true rfl) (fun h => nomatch h) ?_
  intro C hg hl hC hz hF
  subst hg; subst hl
  have hT := ok_X10_off
  unfold X10_off_0 at hf
  show aX C M_X10_off 0 0 (0, [(0, .ref 0), (1, .int a1)], [], LAY, S)
  refine aRun_ok hC hT 1 (cf' := (1, [(0, .ref 0), (1, .int a1)], [.int a1], LAY, S)) (by rfl) ?_
  obtain ⟨w1, ew2, hf⟩ := aLetE hf
  refine aCallS (As := [.int a1]) (rest := []) hC hT rfl k_X10_off_107.1 _ k_X10_off_107.2 (by rfl) (Nat.le_of_ble_eq_true rfl) (by decide) (J_X10_isPage C.2.2.1 C.1 a1 S ew2) ?_
  refine aIf_ne hC hT (tgt := 10) rfl (by decide) (fun hc3 => ?_) (fun hc3 => ?_)
  · have hf := aIfF hf hc3
    refine aRun_ok hC hT 3 (cf' := (15, [(0, .ref 0), (1, .int a1)], [.int a1, .ref 8], LAY, S)) (by rfl) ?_
    obtain ⟨w4, ew5, hf⟩ := aLetE hf
    refine aCallV (b := 8) (As := [.int a1]) (rest := []) hC hT rfl k_X10_off_115.1 _ _ k_X10_off_115.2 (by decide) (by rfl) (by rfl) (by rfl) (Nat.le_of_ble_eq_true rfl) (by decide) (J_X2_hasDue_8 C.2.2.1 C.1 a1 S ew5) ?_
    refine aIf_ne hC hT (tgt := 23) rfl (by decide) (fun hc6 => ?_) (fun hc6 => ?_)
    · have hf := aIfF hf hc6
      refine aRun_ok hC hT 3 (cf' := (28, [(0, .ref 0), (1, .int a1)], [.int a1, .ref 8], LAY, S)) (by rfl) ?_
      obtain ⟨w7, ew8, hf⟩ := aBnE hf
      refine aCallV (b := 8) (As := [.int a1]) (rest := []) hC hT rfl k_X10_off_110.1 _ _ k_X10_off_110.2 (by decide) (by rfl) (by rfl) (by rfl) (Nat.le_of_ble_eq_true rfl) (by decide) (J_X2_outOf_8 C.2.2.1 C.1 N a1 S ew8) ?_
      refine aRun_ok hC hT 3 (cf' := (36, [(0, .ref 0), (1, .int a1)], [.int a1, .ref 8, .int w7], LAY, S)) (by rfl) ?_
      obtain ⟨w9, ew10, hf⟩ := aLetE hf
      refine aCallV (b := 8) (As := [.int a1]) (rest := [.int w7]) hC hT rfl k_X10_off_118.1 _ _ k_X10_off_118.2 (by decide) (by rfl) (by rfl) (by rfl) (Nat.le_of_ble_eq_true rfl) (by decide) (J_X2_dueOf_8 C.2.2.1 C.1 a1 S ew10) ?_
      refine aRun_ok hC hT 3 (cf' := (43, [(0, .ref 0), (1, .int a1)], [.int ((w7 - w9) + (50000000 : Int32))], LAY, S)) (by rfl) ?_
      have e9 := Option.some.inj hf; subst e9
      exact aRetI hC hT hF rfl rfl
    · have hf := aIfT hf hc6
      refine aRun_ok hC hT 1 (cf' := (22, [(0, .ref 0), (1, .int a1)], [.int ((-1) : Int32)], LAY, S)) (by rfl) ?_
      have e9 := Option.some.inj hf; subst e9
      exact aRetI hC hT hF rfl rfl
  · have hf := aIfT hf hc3
    refine aRun_ok hC hT 1 (cf' := (9, [(0, .ref 0), (1, .int a1)], [.int ((-2) : Int32)], LAY, S)) (by rfl) ?_
    have e9 := Option.some.inj hf; subst e9
    exact aRetI hC hT hF rfl rfl
def X6_at_17 (a1 : Int32) (S : aSt) : Int32 := (if a1 < (0 : Int32) then (0 : Int32) else (if (1921 : Int32) ≤ a1 then (0 : Int32) else ((S.2.2 17) a1.toNatClampNeg)))
set_option maxHeartbeats 4000000 in
set_option maxRecDepth 100000 in
theorem J_X6_at_17 (l : Launch) (g : aWg) (a1 : Int32) (S : aSt) {r : Int32} (hf : X6_at_17 a1 S = r) : aJ l g yX6_at M_X6_at [.ref 17, .int a1] LAY S (some (.int r)) LAY S 0 0 := by
  refine aJ_of (by decide +kernel) rfl (Nat.le_of_ble_eq_true rfl) (fun h => nomatch h) ?_
  intro C hg hl hC hz hF
  subst hg; subst hl
  have hT := ok_X6_at
  unfold X6_at_17 at hf
  show aX C M_X6_at 0 0 (0, [(0, .ref 17), (1, .int a1)], [], LAY, S)
  refine aRun_ok hC hT 1 (cf' := (1, [(0, .ref 17), (1, .int a1)], [.int a1], LAY, S)) (by rfl) ?_
  refine aIf_lt hC hT (tgt := 16) rfl (by decide) (fun hc1 => ?_) (fun hc1 => ?_)
  · have hf := aIfT hf hc1
    refine aRun_ok hC hT 1 (cf' := (17, [(0, .ref 17), (1, .int a1)], [.int (0 : Int32)], LAY, S)) (by rfl) ?_
    subst hf
    exact aRetI hC hT hF rfl rfl
  · have hf := aIfF hf hc1
    refine aRun_ok hC hT 3 (cf' := (7, [(0, .ref 17), (1, .int a1)], [.int (1921 : Int32), .int a1], LAY, S)) (by rfl) ?_
    refine aCmp_ge hC hT (tgt := 16) rfl (by decide) (fun hc2 => ?_) (fun hc2 => ?_)
    · have hf := aIfT hf hc2
      refine aRun_ok hC hT 1 (cf' := (17, [(0, .ref 17), (1, .int a1)], [.int (0 : Int32)], LAY, S)) (by rfl) ?_
      subst hf
      exact aRetI hC hT hF rfl rfl
    · have hf := aIfF hf hc2
      refine aRun_ok hC hT 2 (cf' := (12, [(0, .ref 17), (1, .int a1)], [.int a1, .ref 17], LAY, S)) (by rfl) ?_
      refine aIald hC hT rfl (by decide) (by rfl) (aIx_of hc1 hc2 (by decide)) ?_
      refine aRun_ok hC hT 1 (cf' := (17, [(0, .ref 17), (1, .int a1)], [.int ((S.2.2 17) a1.toNatClampNeg)], LAY, S)) (by rfl) ?_
      subst hf
      exact aRetI hC hT hF rfl rfl
def X8_told_14 (N : Nat) (a1 : Int32) (a2 : Int32) (S : aSt) : Option (Int32) := (if a2.toInt < 0 ∨ 3 < a2.toInt then (aLet (X8_weight_14 a1 S) (fun w2 => some (w2))) else (if a2 = (0 : Int32) then (aLet (X8_kind_14 a1 S) (fun w5 => some (w5))) else (if a2 = (1 : Int32) then (aLet (X8_place_14 a1 S) (fun w8 => some (w8))) else (if a2 = (2 : Int32) then (aLet (X6_at_17 a1 S) (fun w11 => some (w11))) else (if a2 = (3 : Int32) then (aLet (X8_change_14 a1 S) (fun w14 => some ((w14 + (50000000 : Int32))))) else none)))))
set_option maxHeartbeats 4000000 in
set_option maxRecDepth 100000 in
theorem J_X8_told_14 (l : Launch) (g : aWg) (N : Nat) (a1 : Int32) (a2 : Int32) (S : aSt) {r : Int32} (hf : X8_told_14 N a1 a2 S = (some r)) : aJ l g yX8_told M_X8_told [.ref 14, .int a1, .int a2] LAY S (some (.int r)) LAY S 0 0 := by
  refine aJ_of (by decide +kernel) rfl (Nat.le_of_ble_eq_true rfl) (fun h => nomatch h) ?_
  intro C hg hl hC hz hF
  subst hg; subst hl
  have hT := ok_X8_told
  unfold X8_told_14 at hf
  show aX C M_X8_told 0 0 (0, [(0, .ref 14), (1, .int a1), (2, .int a2)], [], LAY, S)
  refine aRun_ok hC hT 1 (cf' := (1, [(0, .ref 14), (1, .int a1), (2, .int a2)], [.int a2], LAY, S)) (by rfl) ?_
  rcases aTswE hf with ⟨hc1, hf⟩ | ⟨hc1, hf⟩
  · refine aTswD hC hT (tgt := 62) rfl hc1 (by decide) ?_
    refine aRun_ok hC hT 2 (cf' := (64, [(0, .ref 14), (1, .int a1), (2, .int a2)], [.int a1, .ref 14], LAY, S)) (by rfl) ?_
    obtain ⟨w2, ew3, hf⟩ := aLetE hf
    refine aCallV (b := 14) (As := [.int a1]) (rest := []) hC hT rfl k_X8_told_54.1 _ _ k_X8_told_54.2 (by decide) (by rfl) (by rfl) (by rfl) (Nat.le_of_ble_eq_true rfl) (by decide) (J_X8_weight_14 C.2.2.1 C.1 a1 S ew3) ?_
    have e9 := Option.some.inj hf; subst e9
    exact aRetI hC hT hF rfl rfl
  · rcases aIfE hf with ⟨hc4, hf⟩ | ⟨-, hf⟩
    · refine aTsw hC hT (off := 31) (tgt := 32) rfl (0 : Int32) hc4 (by decide) (by decide) (by rfl) (by decide) ?_
      refine aRun_ok hC hT 2 (cf' := (34, [(0, .ref 14), (1, .int a1), (2, .int a2)], [.int a1, .ref 14], LAY, S)) (by rfl) ?_
      obtain ⟨w5, ew6, hf⟩ := aLetE hf
      refine aCallV (b := 14) (As := [.int a1]) (rest := []) hC hT rfl k_X8_told_43.1 _ _ k_X8_told_43.2 (by decide) (by rfl) (by rfl) (by rfl) (Nat.le_of_ble_eq_true rfl) (by decide) (J_X8_kind_14 C.2.2.1 C.1 a1 S ew6) ?_
      have e9 := Option.some.inj hf; subst e9
      exact aRetI hC hT hF rfl rfl
    · rcases aIfE hf with ⟨hc7, hf⟩ | ⟨-, hf⟩
      · refine aTsw hC hT (off := 37) (tgt := 38) rfl (1 : Int32) hc7 (by decide) (by decide) (by rfl) (by decide) ?_
        refine aRun_ok hC hT 2 (cf' := (40, [(0, .ref 14), (1, .int a1), (2, .int a2)], [.int a1, .ref 14], LAY, S)) (by rfl) ?_
        obtain ⟨w8, ew9, hf⟩ := aLetE hf
        refine aCallV (b := 14) (As := [.int a1]) (rest := []) hC hT rfl k_X8_told_47.1 _ _ k_X8_told_47.2 (by decide) (by rfl) (by rfl) (by rfl) (Nat.le_of_ble_eq_true rfl) (by decide) (J_X8_place_14 C.2.2.1 C.1 a1 S ew9) ?_
        have e9 := Option.some.inj hf; subst e9
        exact aRetI hC hT hF rfl rfl
      · rcases aIfE hf with ⟨hc10, hf⟩ | ⟨-, hf⟩
        · refine aTsw hC hT (off := 43) (tgt := 44) rfl (2 : Int32) hc10 (by decide) (by decide) (by rfl) (by decide) ?_
          refine aRun_ok hC hT 3 (cf' := (49, [(0, .ref 14), (1, .int a1), (2, .int a2)], [.int a1, .ref 17], LAY, S)) (by rfl) ?_
          obtain ⟨w11, ew12, hf⟩ := aLetE hf
          refine aCallS (As := [.ref 17, .int a1]) (rest := []) hC hT rfl k_X8_told_37.1 _ k_X8_told_37.2 (by rfl) (Nat.le_of_ble_eq_true rfl) (by decide) (J_X6_at_17 C.2.2.1 C.1 a1 S ew12) ?_
          have e9 := Option.some.inj hf; subst e9
          exact aRetI hC hT hF rfl rfl
        · rcases aIfE hf with ⟨hc13, hf⟩ | ⟨-, hf⟩
          · refine aTsw hC hT (off := 52) (tgt := 53) rfl (3 : Int32) hc13 (by decide) (by decide) (by rfl) (by decide) ?_
            refine aRun_ok hC hT 2 (cf' := (55, [(0, .ref 14), (1, .int a1), (2, .int a2)], [.int a1, .ref 14], LAY, S)) (by rfl) ?_
            obtain ⟨w14, ew15, hf⟩ := aLetE hf
            refine aCallV (b := 14) (As := [.int a1]) (rest := []) hC hT rfl k_X8_told_50.1 _ _ k_X8_told_50.2 (by decide) (by rfl) (by rfl) (by rfl) (Nat.le_of_ble_eq_true rfl) (by decide) (J_X8_change_14 C.2.2.1 C.1 a1 S ew15) ?_
            refine aRun_ok hC hT 2 (cf' := (61, [(0, .ref 14), (1, .int a1), (2, .int a2)], [.int (w14 + (50000000 : Int32))], LAY, S)) (by rfl) ?_
            have e9 := Option.some.inj hf; subst e9
            exact aRetI hC hT hF rfl rfl
          · cases hf
def X10_one_0_b36 (N : Nat) (v1 : Int32) (v2 : Int32) (S : aSt) : Option (Int32 × aSt) := (if v1 = ((-1) : Int32) then some (((S.1 22 0), S)) else (if v1 < (S.1 22 0) then (aLet (X7_slip_22 v1 S) (fun w9 => (Option.bind (X8_told_14 N w9 v2 S) (fun w11 => some ((w11, S)))))) else some ((((-1) : Int32), S))))
set_option maxHeartbeats 4000000 in
set_option maxRecDepth 100000 in
theorem X10_one_0_b36_ok {C : aC} {N : Nat} (hC : aCx C M_X10_one) {r : Int32 × aSt} (hF : aFin C (some (.int r.1)) LAY r.2 0 0) (v1 : Int32) (v2 : Int32) (S : aSt) (hf : X10_one_0_b36 N v1 v2 S = (some r)) : aX C M_X10_one 0 0 (36, [(0, .ref 0), (1, .int v1), (2, .int v2)], [.ref 22], LAY, S) := by
  have hT := ok_X10_one
  unfold X10_one_0_b36 at hf
  refine aRun_ok hC hT 3 (cf' := (40, [(4, .ref 22), (0, .ref 0), (1, .int v1), (2, .int v2)], [.int ((-1) : Int32), .int v1], LAY, S)) (by rfl) ?_
  refine aCmp_ne hC hT (tgt := 49) rfl (by decide) (fun hc7 => ?_) (fun hc7 => ?_)
  · have hf := aIfF hf hc7
    refine aRun_ok hC hT 3 (cf' := (55, [(4, .ref 22), (0, .ref 0), (1, .int v1), (2, .int v2)], [.int (S.1 22 0), .int v1], LAY, S)) (by rfl) ?_
    refine aCmp_lt hC hT (tgt := 60) rfl (by decide) (fun hc8 => ?_) (fun hc8 => ?_)
    · have hf := aIfT hf hc8
      refine aRun_ok hC hT 4 (cf' := (67, [(4, .ref 22), (0, .ref 0), (1, .int v1), (2, .int v2)], [.int v1, .ref 22, .ref 14], LAY, S)) (by rfl) ?_
      obtain ⟨w9, ew10, hf⟩ := aLetE hf
      refine aCallV (b := 22) (As := [.int v1]) (rest := [.ref 14]) hC hT rfl k_X10_one_173.1 _ _ k_X10_one_173.2 (by decide) (by rfl) (by rfl) (by rfl) (Nat.le_of_ble_eq_true rfl) (by decide) (J_X7_slip_22 C.2.2.1 C.1 v1 S ew10) ?_
      refine aRun_ok hC hT 1 (cf' := (71, [(4, .ref 22), (0, .ref 0), (1, .int v1), (2, .int v2)], [.int v2, .int w9, .ref 14], LAY, S)) (by rfl) ?_
      obtain ⟨w11, ew12, hf⟩ := aBnE hf
      refine aCallV (b := 14) (As := [.int w9, .int v2]) (rest := []) hC hT rfl k_X10_one_176.1 _ _ k_X10_one_176.2 (by decide) (by rfl) (by rfl) (by rfl) (Nat.le_of_ble_eq_true rfl) (by decide) (J_X8_told_14 C.2.2.1 C.1 N w9 v2 S ew12) ?_
      have e9 := Option.some.inj hf; subst e9
      exact aRetI hC hT hF rfl rfl
    · have hf := aIfF hf hc8
      refine aRun_ok hC hT 1 (cf' := (59, [(4, .ref 22), (0, .ref 0), (1, .int v1), (2, .int v2)], [.int ((-1) : Int32)], LAY, S)) (by rfl) ?_
      have e9 := Option.some.inj hf; subst e9
      exact aRetI hC hT hF rfl rfl
  · have hf := aIfT hf hc7
    refine aRun_ok hC hT 2 (cf' := (48, [(4, .ref 22), (0, .ref 0), (1, .int v1), (2, .int v2)], [.int (S.1 22 0)], LAY, S)) (by rfl) ?_
    have e9 := Option.some.inj hf; subst e9
    exact aRetI hC hT hF rfl rfl
def X10_one_0_b36b (N : Nat) (v1 : Int32) (v2 : Int32) (S : aSt) : Option (Int32 × aSt) := (if v1 = ((-1) : Int32) then some (((S.1 25 0), S)) else (if v1 < (S.1 25 0) then (aLet (X7_slip_25 v1 S) (fun w15 => (Option.bind (X8_told_14 N w15 v2 S) (fun w17 => some ((w17, S)))))) else some ((((-1) : Int32), S))))
set_option maxHeartbeats 4000000 in
set_option maxRecDepth 100000 in
theorem X10_one_0_b36b_ok {C : aC} {N : Nat} (hC : aCx C M_X10_one) {r : Int32 × aSt} (hF : aFin C (some (.int r.1)) LAY r.2 0 0) (v1 : Int32) (v2 : Int32) (S : aSt) (hf : X10_one_0_b36b N v1 v2 S = (some r)) : aX C M_X10_one 0 0 (36, [(0, .ref 0), (1, .int v1), (2, .int v2)], [.ref 25], LAY, S) := by
  have hT := ok_X10_one
  unfold X10_one_0_b36b at hf
  refine aRun_ok hC hT 3 (cf' := (40, [(4, .ref 25), (0, .ref 0), (1, .int v1), (2, .int v2)], [.int ((-1) : Int32), .int v1], LAY, S)) (by rfl) ?_
  refine aCmp_ne hC hT (tgt := 49) rfl (by decide) (fun hc13 => ?_) (fun hc13 => ?_)
  · have hf := aIfF hf hc13
    refine aRun_ok hC hT 3 (cf' := (55, [(4, .ref 25), (0, .ref 0), (1, .int v1), (2, .int v2)], [.int (S.1 25 0), .int v1], LAY, S)) (by rfl) ?_
    refine aCmp_lt hC hT (tgt := 60) rfl (by decide) (fun hc14 => ?_) (fun hc14 => ?_)
    · have hf := aIfT hf hc14
      refine aRun_ok hC hT 4 (cf' := (67, [(4, .ref 25), (0, .ref 0), (1, .int v1), (2, .int v2)], [.int v1, .ref 25, .ref 14], LAY, S)) (by rfl) ?_
      obtain ⟨w15, ew16, hf⟩ := aLetE hf
      refine aCallV (b := 25) (As := [.int v1]) (rest := [.ref 14]) hC hT rfl k_X10_one_173.1 _ _ k_X10_one_173.2 (by decide) (by rfl) (by rfl) (by rfl) (Nat.le_of_ble_eq_true rfl) (by decide) (J_X7_slip_25 C.2.2.1 C.1 v1 S ew16) ?_
      refine aRun_ok hC hT 1 (cf' := (71, [(4, .ref 25), (0, .ref 0), (1, .int v1), (2, .int v2)], [.int v2, .int w15, .ref 14], LAY, S)) (by rfl) ?_
      obtain ⟨w17, ew18, hf⟩ := aBnE hf
      refine aCallV (b := 14) (As := [.int w15, .int v2]) (rest := []) hC hT rfl k_X10_one_176.1 _ _ k_X10_one_176.2 (by decide) (by rfl) (by rfl) (by rfl) (Nat.le_of_ble_eq_true rfl) (by decide) (J_X8_told_14 C.2.2.1 C.1 N w15 v2 S ew18) ?_
      have e9 := Option.some.inj hf; subst e9
      exact aRetI hC hT hF rfl rfl
    · have hf := aIfF hf hc14
      refine aRun_ok hC hT 1 (cf' := (59, [(4, .ref 25), (0, .ref 0), (1, .int v1), (2, .int v2)], [.int ((-1) : Int32)], LAY, S)) (by rfl) ?_
      have e9 := Option.some.inj hf; subst e9
      exact aRetI hC hT hF rfl rfl
  · have hf := aIfT hf hc13
    refine aRun_ok hC hT 2 (cf' := (48, [(4, .ref 25), (0, .ref 0), (1, .int v1), (2, .int v2)], [.int (S.1 25 0)], LAY, S)) (by rfl) ?_
    have e9 := Option.some.inj hf; subst e9
    exact aRetI hC hT hF rfl rfl
def X10_one_0 (N : Nat) (a1 : Int32) (a2 : Int32) (a3 : Int32) (S : aSt) : Option (Int32 × aSt) := (if a1 < ((-1) : Int32) then some ((((-3) : Int32), S)) else (if a2 < (0 : Int32) then some ((((-3) : Int32), S)) else (if a2 ≤ (4 : Int32) then (Option.bind (X10_workOut_0 N S) (fun w4 => (if a3 = (0 : Int32) then (X10_one_0_b36 N a1 a2 w4) else (X10_one_0_b36b N a1 a2 w4)))) else some ((((-3) : Int32), S)))))
set_option maxHeartbeats 4000000 in
set_option maxRecDepth 100000 in
theorem J_X10_one_0 (l : Launch) (g : aWg) (N : Nat) (a1 : Int32) (a2 : Int32) (a3 : Int32) (S : aSt) {r : Int32 × aSt} (hf : X10_one_0 N a1 a2 a3 S = (some r)) : aJ l g yX10_one M_X10_one [.ref 0, .int a1, .int a2, .int a3] LAY S (some (.int r.1)) LAY r.2 0 0 := by
  refine aJ_of (by decide +kernel) rfl (Nat.le_of_ble_eq_true rfl) (fun h => nomatch h) ?_
  intro C hg hl hC hz hF
  subst hg; subst hl
  have hT := ok_X10_one
  unfold X10_one_0 at hf
  show aX C M_X10_one 0 0 (0, [(0, .ref 0), (1, .int a1), (2, .int a2), (3, .int a3)], [], LAY, S)
  refine aRun_ok hC hT 2 (cf' := (2, [(0, .ref 0), (1, .int a1), (2, .int a2), (3, .int a3)], [.int ((-1) : Int32), .int a1], LAY, S)) (by rfl) ?_
  refine aCmp_lt hC hT (tgt := 14) rfl (by decide) (fun hc1 => ?_) (fun hc1 => ?_)
  · have hf := aIfT hf hc1
    refine aRun_ok hC hT 1 (cf' := (16, [(0, .ref 0), (1, .int a1), (2, .int a2), (3, .int a3)], [.int ((-3) : Int32)], LAY, S)) (by rfl) ?_
    have e9 := Option.some.inj hf; subst e9
    exact aRetI hC hT hF rfl rfl
  · have hf := aIfF hf hc1
    refine aRun_ok hC hT 1 (cf' := (6, [(0, .ref 0), (1, .int a1), (2, .int a2), (3, .int a3)], [.int a2], LAY, S)) (by rfl) ?_
    refine aIf_lt hC hT (tgt := 14) rfl (by decide) (fun hc2 => ?_) (fun hc2 => ?_)
    · have hf := aIfT hf hc2
      refine aRun_ok hC hT 1 (cf' := (16, [(0, .ref 0), (1, .int a1), (2, .int a2), (3, .int a3)], [.int ((-3) : Int32)], LAY, S)) (by rfl) ?_
      have e9 := Option.some.inj hf; subst e9
      exact aRetI hC hT hF rfl rfl
    · have hf := aIfF hf hc2
      refine aRun_ok hC hT 2 (cf' := (11, [(0, .ref 0), (1, .int a1), (2, .int a2), (3, .int a3)], [.int (4 : Int32), .int a2], LAY, S)) (by rfl) ?_
      refine aCmp_le hC hT (tgt := 17) rfl (by decide) (fun hc3 => ?_) (fun hc3 => ?_)
      · have hf := aIfT hf hc3
        refine aRun_ok hC hT 1 (cf' := (18, [(0, .ref 0), (1, .int a1), (2, .int a2), (3, .int a3)], [.ref 0], LAY, S)) (by rfl) ?_
        obtain ⟨w4, ew5, hf⟩ := aBnE hf
        refine aCallV (b := 0) (As := []) (rest := []) hC hT rfl k_X10_one_169.1 _ _ k_X10_one_169.2 (by decide) (by rfl) (by rfl) (by rfl) (Nat.le_of_ble_eq_true rfl) (by decide) (J_X10_workOut_0 C.2.2.1 C.1 N  S ew5) ?_
        refine aRun_ok hC hT 1 (cf' := (22, [(0, .ref 0), (1, .int a1), (2, .int a2), (3, .int a3)], [.int a3], LAY, w4)) (by rfl) ?_
        refine aIf_eq hC hT (tgt := 32) rfl (by decide) (fun hc6 => ?_) (fun hc6 => ?_)
        · have hf := aIfT hf hc6
          refine aRun_ok hC hT 2 (cf' := (36, [(0, .ref 0), (1, .int a1), (2, .int a2), (3, .int a3)], [.ref 22], LAY, w4)) (by rfl) ?_
          refine aLocs [0, 1, 2] (lv' := [(0, .ref 0), (1, .int a1), (2, .int a2)]) rfl ?_
          exact X10_one_0_b36_ok hC hF a1 a2 w4 hf
        · have hf := aIfF hf hc6
          refine aRun_ok hC hT 3 (cf' := (36, [(0, .ref 0), (1, .int a1), (2, .int a2), (3, .int a3)], [.ref 25], LAY, w4)) (by rfl) ?_
          refine aLocs [0, 1, 2] (lv' := [(0, .ref 0), (1, .int a1), (2, .int a2)]) rfl ?_
          exact X10_one_0_b36b_ok hC hF a1 a2 w4 hf
      · have hf := aIfF hf hc3
        refine aRun_ok hC hT 1 (cf' := (16, [(0, .ref 0), (1, .int a1), (2, .int a2), (3, .int a3)], [.int ((-3) : Int32)], LAY, S)) (by rfl) ?_
        have e9 := Option.some.inj hf; subst e9
        exact aRetI hC hT hF rfl rfl
