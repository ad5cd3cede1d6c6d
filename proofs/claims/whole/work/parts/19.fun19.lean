def X6_set_39 (a1 : Int32) (a2 : Int32) (S : aSt) : aSt := (if a1 < (0 : Int32) then S else (if (12 : Int32) ≤ a1 then S else (aA S 39 (upd (S.2.2 39) a1.toNatClampNeg a2))))
set_option maxHeartbeats 4000000 in
set_option maxRecDepth 100000 in
theorem J_X6_set_39 (l : Launch) (g : aWg) (a1 : Int32) (a2 : Int32) (S : aSt) {r : aSt} (hf : X6_set_39 a1 a2 S = r) : aJ l g yX6_set M_X6_set [.ref 39, .int a1, .int a2] LAY S none LAY r 0 0 := by
  refine aJ_of (by decide +kernel) rfl (Nat.le_of_ble_eq_true rfl) (fun h => nomatch h) ?_
  intro C hg hl hC hz hF
  subst hg; subst hl
  have hT := ok_X6_set
  unfold X6_set_39 at hf
  show aX C M_X6_set 0 0 (0, [(0, .ref 39), (1, .int a1), (2, .int a2)], [], LAY, S)
  refine aRun_ok hC hT 1 (cf' := (1, [(0, .ref 39), (1, .int a1), (2, .int a2)], [.int a1], LAY, S)) (by rfl) ?_
  refine aIf_lt hC hT (tgt := 14) rfl (by decide) (fun hc1 => ?_) (fun hc1 => ?_)
  · have hf := aIfT hf hc1
    subst hf
    exact aRetV hC hT hF rfl rfl
  · have hf := aIfF hf hc1
    refine aRun_ok hC hT 3 (cf' := (7, [(0, .ref 39), (1, .int a1), (2, .int a2)], [.int (12 : Int32), .int a1], LAY, S)) (by rfl) ?_
    refine aCmp_ge hC hT (tgt := 14) rfl (by decide) (fun hc2 => ?_) (fun hc2 => ?_)
    · have hf := aIfT hf hc2
      subst hf
      exact aRetV hC hT hF rfl rfl
    · have hf := aIfF hf hc2
      refine aRun_ok hC hT 3 (cf' := (13, [(0, .ref 39), (1, .int a1), (2, .int a2)], [.int a2, .int a1, .ref 39], LAY, S)) (by rfl) ?_
      refine aIast hC hT rfl (by decide) (by rfl) (aIx_of hc1 hc2 (by decide)) ?_
      subst hf
      exact aRetV hC hT hF rfl rfl
def X4_add_38 (a1 : Int32) (S : aSt) : aSt := (aLet (X6_set_39 (S.1 38 0) a1 S) (fun w1 => (aI w1 38 0 ((w1.1 38 0) + (1 : Int32)))))
set_option maxHeartbeats 4000000 in
set_option maxRecDepth 100000 in
theorem J_X4_add_38 (l : Launch) (g : aWg) (a1 : Int32) (S : aSt) {r : aSt} (hf : X4_add_38 a1 S = r) : aJ l g yX4_add M_X4_add [.ref 38, .int a1] LAY S none LAY r 0 0 := by
  refine aJ_of (by decide +kernel) rfl (Nat.le_of_ble_eq_true rfl) (fun h => nomatch h) ?_
  intro C hg hl hC hz hF
  subst hg; subst hl
  have hT := ok_X4_add
  unfold X4_add_38 at hf
  show aX C M_X4_add 0 0 (0, [(0, .ref 38), (1, .int a1)], [], LAY, S)
  refine aRun_ok hC hT 5 (cf' := (9, [(0, .ref 38), (1, .int a1)], [.int a1, .int (S.1 38 0), .ref 39], LAY, S)) (by rfl) ?_
  obtain ⟨w1, ew2, hf⟩ := aLetE hf
  refine aCallS (As := [.ref 39, .int (S.1 38 0), .int a1]) (rest := []) hC hT rfl k_X4_add_29.1 _ k_X4_add_29.2 (by rfl) (Nat.le_of_ble_eq_true rfl) (by decide) (J_X6_set_39 C.2.2.1 C.1 (S.1 38 0) a1 S ew2) ?_
  refine aRun_ok hC hT 6 (cf' := (22, [(0, .ref 38), (1, .int a1)], [], LAY, (aI w1 38 0 ((w1.1 38 0) + (1 : Int32))))) (by rfl) ?_
  subst hf
  exact aRetV hC hT hF rfl rfl
def X10_other_0 (a1 : Int32) (S : aSt) : Int32 × aSt := (aLet (X10_isSum a1) (fun w1 => (if w1 = (0 : Int32) then (((-3) : Int32), S) else (if (S.1 38 0) < (12 : Int32) then (aLet (X4_add_38 a1 S) (fun w5 => ((w5.1 38 0), w5))) else (((-5) : Int32), S)))))
set_option maxHeartbeats 4000000 in
set_option maxRecDepth 100000 in
theorem J_X10_other_0 (l : Launch) (g : aWg) (a1 : Int32) (S : aSt) {r : Int32 × aSt} (hf : X10_other_0 a1 S = r) : aJ l g yX10_other M_X10_other [.ref 0, .int a1] LAY S (some (.int r.1)) LAY r.2 0 0 := by
  refine aJ_of (by decide +kernel) rfl (Nat.le_of_ble_eq_true rfl) (fun h => nomatch h) ?_
  intro C hg hl hC hz hF
  subst hg; subst hl
  have hT := ok_X10_other
  unfold X10_other_0 at hf
  show aX C M_X10_other 0 0 (0, [(0, .ref 0), (1, .int a1)], [], LAY, S)
  refine aRun_ok hC hT 1 (cf' := (1, [(0, .ref 0), (1, .int a1)], [.int a1], LAY, S)) (by rfl) ?_
  obtain ⟨w1, ew2, hf⟩ := aLetE hf
  refine aCallS (As := [.int a1]) (rest := []) hC hT rfl k_X10_other_142.1 _ k_X10_other_142.2 (by rfl) (Nat.le_of_ble_eq_true rfl) (by decide) (J_X10_isSum C.2.2.1 C.1 a1 S ew2) ?_
  refine aIf_ne hC hT (tgt := 10) rfl (by decide) (fun hc3 => ?_) (fun hc3 => ?_)
  · have hf := aIfF hf hc3
    refine aRun_ok hC hT 4 (cf' := (19, [(0, .ref 0), (1, .int a1)], [.int (12 : Int32), .int (S.1 38 0)], LAY, S)) (by rfl) ?_
    refine aCmp_lt hC hT (tgt := 25) rfl (by decide) (fun hc4 => ?_) (fun hc4 => ?_)
    · have hf := aIfT hf hc4
      refine aRun_ok hC hT 3 (cf' := (30, [(0, .ref 0), (1, .int a1)], [.int a1, .ref 38], LAY, S)) (by rfl) ?_
      obtain ⟨w5, ew6, hf⟩ := aLetE hf
      refine aCallV (b := 38) (As := [.int a1]) (rest := []) hC hT rfl k_X10_other_234.1 _ _ k_X10_other_234.2 (by decide) (by rfl) (by rfl) (by rfl) (Nat.le_of_ble_eq_true rfl) (by decide) (J_X4_add_38 C.2.2.1 C.1 a1 S ew6) ?_
      refine aRun_ok hC hT 3 (cf' := (40, [(0, .ref 0), (1, .int a1)], [.int (w5.1 38 0)], LAY, w5)) (by rfl) ?_
      subst hf
      exact aRetI hC hT hF rfl rfl
    · have hf := aIfF hf hc4
      refine aRun_ok hC hT 1 (cf' := (24, [(0, .ref 0), (1, .int a1)], [.int ((-5) : Int32)], LAY, S)) (by rfl) ?_
      subst hf
      exact aRetI hC hT hF rfl rfl
  · have hf := aIfT hf hc3
    refine aRun_ok hC hT 1 (cf' := (9, [(0, .ref 0), (1, .int a1)], [.int ((-3) : Int32)], LAY, S)) (by rfl) ?_
    subst hf
    exact aRetI hC hT hF rfl rfl
def X10_out_0_b15 (N : Nat) (S : aSt) (v1 : Int32) : Option (Int32) := (Option.bind (X2_outOf_8 N v1 S) (fun w2 => some ((w2 + (50000000 : Int32)))))
set_option maxHeartbeats 4000000 in
set_option maxRecDepth 100000 in
theorem X10_out_0_b15_ok {C : aC} {N : Nat} {S : aSt} (hC : aCx C M_X10_out) {r : Int32} (hF : aFin C (some (.int r)) LAY S 0 0) (v1 : Int32) (hf : X10_out_0_b15 N S v1 = (some r)) : aX C M_X10_out 0 0 (15, [(0, .ref 0), (1, .int v1)], [], LAY, S) := by
  have hT := ok_X10_out
  unfold X10_out_0_b15 at hf
  refine aRun_ok hC hT 3 (cf' := (20, [(0, .ref 0), (1, .int v1)], [.int v1, .ref 8], LAY, S)) (by rfl) ?_
  obtain ⟨w2, ew3, hf⟩ := aBnE hf
  refine aCallV (b := 8) (As := [.int v1]) (rest := []) hC hT rfl k_X10_out_110.1 _ _ k_X10_out_110.2 (by decide) (by rfl) (by rfl) (by rfl) (Nat.le_of_ble_eq_true rfl) (by decide) (J_X2_outOf_8 C.2.2.1 C.1 N v1 S ew3) ?_
  refine aRun_ok hC hT 2 (cf' := (26, [(0, .ref 0), (1, .int v1)], [.int (w2 + (50000000 : Int32))], LAY, S)) (by rfl) ?_
  have e9 := Option.some.inj hf; subst e9
  exact aRetI hC hT hF rfl rfl
def X10_out_0 (N : Nat) (a1 : Int32) (S : aSt) : Option (Int32) := (if a1 = ((-1) : Int32) then (X10_out_0_b15 N S a1) else (aLet (X10_isPage a1) (fun w4 => (if w4 = (0 : Int32) then some (((-2) : Int32)) else (X10_out_0_b15 N S a1)))))
set_option maxHeartbeats 4000000 in
set_option maxRecDepth 100000 in
theorem J_X10_out_0 (l : Launch) (g : aWg) (N : Nat) (a1 : Int32) (S : aSt) {r : Int32} (hf : X10_out_0 N a1 S = (some r)) : aJ l g yX10_out M_X10_out [.ref 0, .int a1] LAY S (some (.int r)) LAY S 0 0 := by
  refine aJ_of (by decide +kernel) rfl (Nat.le_of_ble_eq_true rfl) (fun h => nomatch h) ?_
  intro C hg hl hC hz hF
  subst hg; subst hl
  have hT := ok_X10_out
  unfold X10_out_0 at hf
  show aX C M_X10_out 0 0 (0, [(0, .ref 0), (1, .int a1)], [], LAY, S)
  refine aRun_ok hC hT 2 (cf' := (2, [(0, .ref 0), (1, .int a1)], [.int ((-1) : Int32), .int a1], LAY, S)) (by rfl) ?_
  refine aCmp_eq hC hT (tgt := 15) rfl (by decide) (fun hc1 => ?_) (fun hc1 => ?_)
  · have hf := aIfT hf hc1
    exact X10_out_0_b15_ok hC hF a1 hf
  · have hf := aIfF hf hc1
    refine aRun_ok hC hT 1 (cf' := (6, [(0, .ref 0), (1, .int a1)], [.int a1], LAY, S)) (by rfl) ?_
    obtain ⟨w4, ew5, hf⟩ := aLetE hf
    refine aCallS (As := [.int a1]) (rest := []) hC hT rfl k_X10_out_107.1 _ k_X10_out_107.2 (by rfl) (Nat.le_of_ble_eq_true rfl) (by decide) (J_X10_isPage C.2.2.1 C.1 a1 S ew5) ?_
    refine aIf_ne hC hT (tgt := 15) rfl (by decide) (fun hc6 => ?_) (fun hc6 => ?_)
    · have hf := aIfF hf hc6
      exact X10_out_0_b15_ok hC hF a1 hf
    · have hf := aIfT hf hc6
      refine aRun_ok hC hT 1 (cf' := (14, [(0, .ref 0), (1, .int a1)], [.int ((-2) : Int32)], LAY, S)) (by rfl) ?_
      have e9 := Option.some.inj hf; subst e9
      exact aRetI hC hT hF rfl rfl
def X10_pair_0_b31 (N : Nat) (v2 : Int32) (S : aSt) : Option (Int32 × aSt) := (if (lg_cmp (S.2.1 28 0) (0 : Int64)) = (0 : Int32) then some ((((-1) : Int32), S)) else (if (3 : Int32) ≤ v2 then (Option.bind (X8_told_14 N (S.1 28 3) (v2 - (3 : Int32)) S) (fun w8 => some ((w8, S)))) else (Option.bind (X8_told_14 N (S.1 28 2) v2 S) (fun w10 => some ((w10, S))))))
set_option maxHeartbeats 4000000 in
set_option maxRecDepth 100000 in
theorem X10_pair_0_b31_ok {C : aC} {N : Nat} (hC : aCx C M_X10_pair) {r : Int32 × aSt} (hF : aFin C (some (.int r.1)) LAY r.2 0 0) (v2 : Int32) (S : aSt) (hf : X10_pair_0_b31 N v2 S = (some r)) : aX C M_X10_pair 0 0 (31, [(0, .ref 0), (2, .int v2)], [.ref 28], LAY, S) := by
  have hT := ok_X10_pair
  unfold X10_pair_0_b31 at hf
  refine aRun_ok hC hT 5 (cf' := (38, [(3, .ref 28), (0, .ref 0), (2, .int v2)], [.int (lg_cmp (S.2.1 28 0) (0 : Int64))], LAY, S)) (by rfl) ?_
  refine aIf_ne hC hT (tgt := 43) rfl (by decide) (fun hc6 => ?_) (fun hc6 => ?_)
  · have hf := aIfF hf hc6
    refine aRun_ok hC hT 2 (cf' := (45, [(3, .ref 28), (0, .ref 0), (2, .int v2)], [.int (3 : Int32), .int v2], LAY, S)) (by rfl) ?_
    refine aCmp_ge hC hT (tgt := 63) rfl (by decide) (fun hc7 => ?_) (fun hc7 => ?_)
    · have hf := aIfT hf hc7
      refine aRun_ok hC hT 7 (cf' := (74, [(3, .ref 28), (0, .ref 0), (2, .int v2)], [.int (v2 - (3 : Int32)), .int (S.1 28 3), .ref 14], LAY, S)) (by rfl) ?_
      obtain ⟨w8, ew9, hf⟩ := aBnE hf
      refine aCallV (b := 14) (As := [.int (S.1 28 3), .int (v2 - (3 : Int32))]) (rest := []) hC hT rfl k_X10_pair_176.1 _ _ k_X10_pair_176.2 (by decide) (by rfl) (by rfl) (by rfl) (Nat.le_of_ble_eq_true rfl) (by decide) (J_X8_told_14 C.2.2.1 C.1 N (S.1 28 3) (v2 - (3 : Int32)) S ew9) ?_
      have e9 := Option.some.inj hf; subst e9
      exact aRetI hC hT hF rfl rfl
    · have hf := aIfF hf hc7
      refine aRun_ok hC hT 5 (cf' := (57, [(3, .ref 28), (0, .ref 0), (2, .int v2)], [.int v2, .int (S.1 28 2), .ref 14], LAY, S)) (by rfl) ?_
      obtain ⟨w10, ew11, hf⟩ := aBnE hf
      refine aCallV (b := 14) (As := [.int (S.1 28 2), .int v2]) (rest := []) hC hT rfl k_X10_pair_176.1 _ _ k_X10_pair_176.2 (by decide) (by rfl) (by rfl) (by rfl) (Nat.le_of_ble_eq_true rfl) (by decide) (J_X8_told_14 C.2.2.1 C.1 N (S.1 28 2) v2 S ew11) ?_
      refine aRun_ok hC hT 1 (cf' := (77, [(3, .ref 28), (0, .ref 0), (2, .int v2)], [.int w10], LAY, S)) (by rfl) ?_
      have e9 := Option.some.inj hf; subst e9
      exact aRetI hC hT hF rfl rfl
  · have hf := aIfT hf hc6
    refine aRun_ok hC hT 1 (cf' := (42, [(3, .ref 28), (0, .ref 0), (2, .int v2)], [.int ((-1) : Int32)], LAY, S)) (by rfl) ?_
    have e9 := Option.some.inj hf; subst e9
    exact aRetI hC hT hF rfl rfl
def X10_pair_0_b31b (N : Nat) (v2 : Int32) (S : aSt) : Option (Int32 × aSt) := (if (lg_cmp (S.2.1 29 0) (0 : Int64)) = (0 : Int32) then some ((((-1) : Int32), S)) else (if (3 : Int32) ≤ v2 then (Option.bind (X8_told_14 N (S.1 29 3) (v2 - (3 : Int32)) S) (fun w14 => some ((w14, S)))) else (Option.bind (X8_told_14 N (S.1 29 2) v2 S) (fun w16 => some ((w16, S))))))
set_option maxHeartbeats 4000000 in
set_option maxRecDepth 100000 in
theorem X10_pair_0_b31b_ok {C : aC} {N : Nat} (hC : aCx C M_X10_pair) {r : Int32 × aSt} (hF : aFin C (some (.int r.1)) LAY r.2 0 0) (v2 : Int32) (S : aSt) (hf : X10_pair_0_b31b N v2 S = (some r)) : aX C M_X10_pair 0 0 (31, [(0, .ref 0), (2, .int v2)], [.ref 29], LAY, S) := by
  have hT := ok_X10_pair
  unfold X10_pair_0_b31b at hf
  refine aRun_ok hC hT 5 (cf' := (38, [(3, .ref 29), (0, .ref 0), (2, .int v2)], [.int (lg_cmp (S.2.1 29 0) (0 : Int64))], LAY, S)) (by rfl) ?_
  refine aIf_ne hC hT (tgt := 43) rfl (by decide) (fun hc12 => ?_) (fun hc12 => ?_)
  · have hf := aIfF hf hc12
    refine aRun_ok hC hT 2 (cf' := (45, [(3, .ref 29), (0, .ref 0), (2, .int v2)], [.int (3 : Int32), .int v2], LAY, S)) (by rfl) ?_
    refine aCmp_ge hC hT (tgt := 63) rfl (by decide) (fun hc13 => ?_) (fun hc13 => ?_)
    · have hf := aIfT hf hc13
      refine aRun_ok hC hT 7 (cf' := (74, [(3, .ref 29), (0, .ref 0), (2, .int v2)], [.int (v2 - (3 : Int32)), .int (S.1 29 3), .ref 14], LAY, S)) (by rfl) ?_
      obtain ⟨w14, ew15, hf⟩ := aBnE hf
      refine aCallV (b := 14) (As := [.int (S.1 29 3), .int (v2 - (3 : Int32))]) (rest := []) hC hT rfl k_X10_pair_176.1 _ _ k_X10_pair_176.2 (by decide) (by rfl) (by rfl) (by rfl) (Nat.le_of_ble_eq_true rfl) (by decide) (J_X8_told_14 C.2.2.1 C.1 N (S.1 29 3) (v2 - (3 : Int32)) S ew15) ?_
      have e9 := Option.some.inj hf; subst e9
      exact aRetI hC hT hF rfl rfl
    · have hf := aIfF hf hc13
      refine aRun_ok hC hT 5 (cf' := (57, [(3, .ref 29), (0, .ref 0), (2, .int v2)], [.int v2, .int (S.1 29 2), .ref 14], LAY, S)) (by rfl) ?_
      obtain ⟨w16, ew17, hf⟩ := aBnE hf
      refine aCallV (b := 14) (As := [.int (S.1 29 2), .int v2]) (rest := []) hC hT rfl k_X10_pair_176.1 _ _ k_X10_pair_176.2 (by decide) (by rfl) (by rfl) (by rfl) (Nat.le_of_ble_eq_true rfl) (by decide) (J_X8_told_14 C.2.2.1 C.1 N (S.1 29 2) v2 S ew17) ?_
      refine aRun_ok hC hT 1 (cf' := (77, [(3, .ref 29), (0, .ref 0), (2, .int v2)], [.int w16], LAY, S)) (by rfl) ?_
      have e9 := Option.some.inj hf; subst e9
      exact aRetI hC hT hF rfl rfl
  · have hf := aIfT hf hc12
    refine aRun_ok hC hT 1 (cf' := (42, [(3, .ref 29), (0, .ref 0), (2, .int v2)], [.int ((-1) : Int32)], LAY, S)) (by rfl) ?_
    have e9 := Option.some.inj hf; subst e9
    exact aRetI hC hT hF rfl rfl
def X10_pair_0 (N : Nat) (a1 : Int32) (a2 : Int32) (S : aSt) : Option (Int32 × aSt) := (if a2 < (0 : Int32) then some ((((-3) : Int32), S)) else (if a2 ≤ (5 : Int32) then (Option.bind (X10_workOut_0 N S) (fun w3 => (if a1 = (0 : Int32) then (X10_pair_0_b31 N a2 w3) else (X10_pair_0_b31b N a2 w3)))) else some ((((-3) : Int32), S))))
set_option maxHeartbeats 4000000 in
set_option maxRecDepth 100000 in
theorem J_X10_pair_0 (l : Launch) (g : aWg) (N : Nat) (a1 : Int32) (a2 : Int32) (S : aSt) {r : Int32 × aSt} (hf : X10_pair_0 N a1 a2 S = (some r)) : aJ l g yX10_pair M_X10_pair [.ref 0, .int a1, .int a2] LAY S (some (.int r.1)) LAY r.2 0 0 := by
  refine aJ_of (by decide +kernel) rfl (Nat.le_of_ble_eq_true rfl) (fun h => nomatch h) ?_
  intro C hg hl hC hz hF
  subst hg; subst hl
  have hT := ok_X10_pair
  unfold X10_pair_0 at hf
  show aX C M_X10_pair 0 0 (0, [(0, .ref 0), (1, .int a1), (2, .int a2)], [], LAY, S)
  refine aRun_ok hC hT 1 (cf' := (1, [(0, .ref 0), (1, .int a1), (2, .int a2)], [.int a2], LAY, S)) (by rfl) ?_
  refine aIf_lt hC hT (tgt := 9) rfl (by decide) (fun hc1 => ?_) (fun hc1 => ?_)
  · have hf := aIfT hf hc1
    refine aRun_ok hC hT 1 (cf' := (11, [(0, .ref 0), (1, .int a1), (2, .int a2)], [.int ((-3) : Int32)], LAY, S)) (by rfl) ?_
    have e9 := Option.some.inj hf; subst e9
    exact aRetI hC hT hF rfl rfl
  · have hf := aIfF hf hc1
    refine aRun_ok hC hT 2 (cf' := (6, [(0, .ref 0), (1, .int a1), (2, .int a2)], [.int (5 : Int32), .int a2], LAY, S)) (by rfl) ?_
    refine aCmp_le hC hT (tgt := 12) rfl (by decide) (fun hc2 => ?_) (fun hc2 => ?_)
    · have hf := aIfT hf hc2
      refine aRun_ok hC hT 1 (cf' := (13, [(0, .ref 0), (1, .int a1), (2, .int a2)], [.ref 0], LAY, S)) (by rfl) ?_
      obtain ⟨w3, ew4, hf⟩ := aBnE hf
      refine aCallV (b := 0) (As := []) (rest := []) hC hT rfl k_X10_pair_169.1 _ _ k_X10_pair_169.2 (by decide) (by rfl) (by rfl) (by rfl) (Nat.le_of_ble_eq_true rfl) (by decide) (J_X10_workOut_0 C.2.2.1 C.1 N  S ew4) ?_
      refine aRun_ok hC hT 1 (cf' := (17, [(0, .ref 0), (1, .int a1), (2, .int a2)], [.int a1], LAY, w3)) (by rfl) ?_
      refine aIf_eq hC hT (tgt := 27) rfl (by decide) (fun hc5 => ?_) (fun hc5 => ?_)
      · have hf := aIfT hf hc5
        refine aRun_ok hC hT 2 (cf' := (31, [(0, .ref 0), (1, .int a1), (2, .int a2)], [.ref 28], LAY, w3)) (by rfl) ?_
        refine aLocs [0, 2] (lv' := [(0, .ref 0), (2, .int a2)]) rfl ?_
        exact X10_pair_0_b31_ok hC hF a2 w3 hf
      · have hf := aIfF hf hc5
        refine aRun_ok hC hT 3 (cf' := (31, [(0, .ref 0), (1, .int a1), (2, .int a2)], [.ref 29], LAY, w3)) (by rfl) ?_
        refine aLocs [0, 2] (lv' := [(0, .ref 0), (2, .int a2)]) rfl ?_
        exact X10_pair_0_b31b_ok hC hF a2 w3 hf
    · have hf := aIfF hf hc2
      refine aRun_ok hC hT 1 (cf' := (11, [(0, .ref 0), (1, .int a1), (2, .int a2)], [.int ((-3) : Int32)], LAY, S)) (by rfl) ?_
      have e9 := Option.some.inj hf; subst e9
      exact aRetI hC hT hF rfl rfl
def X2_hasSum_8_b32 (N : Nat) (S : aSt) (rec2 : Int32 → Int32 → Int32 → Option (Int32)) (v1 : Int32) (v2 : Int32) (v3 : Int32) : Option (Int32) := (rec2 v1 v2 (v3 + (1 : Int32)))
set_option maxHeartbeats 4000000 in
set_option maxRecDepth 100000 in
theorem X2_hasSum_8_b32_ok {C : aC} {N : Nat} {S : aSt} {rec2 : Int32 → Int32 → Int32 → Option (Int32)} (hC : aCx C M_X2_hasSum) {r : Int32} (hF : aFin C (some (.int r)) LAY S 0 0) (hrec2 : ∀ (v1 : Int32) (v2 : Int32) (v3 : Int32), rec2 v1 v2 v3 = (some r) → aX C M_X2_hasSum 0 0 (2, [(0, .ref 8), (1, .int v1), (2, .int v2), (3, .int v3)], [], LAY, S)) (v1 : Int32) (v2 : Int32) (v3 : Int32) (hf : X2_hasSum_8_b32 N S rec2 v1 v2 v3 = (some r)) : aX C M_X2_hasSum 0 0 (32, [(0, .ref 8), (1, .int v1), (2, .int v2), (3, .int v3)], [], LAY, S) := by
  have hT := ok_X2_hasSum
  unfold X2_hasSum_8_b32 at hf
  refine aRun_ok hC hT 2 (cf' := (2, [(3, .int (v3 + (1 : Int32))), (0, .ref 8), (1, .int v1), (2, .int v2)], [], LAY, S)) (by rfl) ?_
  refine aLocs [1, 2, 3, 0] (lv' := [(0, .ref 8), (1, .int v1), (2, .int v2), (3, .int (v3 + (1 : Int32)))]) rfl ?_
  exact hrec2 v1 v2 (v3 + (1 : Int32)) hf
def X2_hasSum_8_b2 (N : Nat) (S : aSt) (rec2 : Int32 → Int32 → Int32 → Option (Int32)) (v1 : Int32) (v2 : Int32) (v3 : Int32) : Option (Int32) := (if (S.1 8 0) ≤ v3 then some ((0 : Int32)) else (aLet (X2_told_8 v3 (0 : Int32) S) (fun w2 => (if w2 = v1 then (aLet (X2_told_8 v3 (1 : Int32) S) (fun w5 => (if w5 = v2 then some ((1 : Int32)) else (X2_hasSum_8_b32 N S rec2 v1 v2 v3)))) else (X2_hasSum_8_b32 N S rec2 v1 v2 v3)))))
set_option maxHeartbeats 4000000 in
set_option maxRecDepth 100000 in
theorem X2_hasSum_8_b2_ok {C : aC} {N : Nat} {S : aSt} {rec2 : Int32 → Int32 → Int32 → Option (Int32)} (hC : aCx C M_X2_hasSum) {r : Int32} (hF : aFin C (some (.int r)) LAY S 0 0) (hrec2 : ∀ (v1 : Int32) (v2 : Int32) (v3 : Int32), rec2 v1 v2 v3 = (some r) → aX C M_X2_hasSum 0 0 (2, [(0, .ref 8), (1, .int v1), (2, .int v2), (3, .int v3)], [], LAY, S)) (v1 : Int32) (v2 : Int32) (v3 : Int32) (hf : X2_hasSum_8_b2 N S rec2 v1 v2 v3 = (some r)) : aX C M_X2_hasSum 0 0 (2, [(0, .ref 8), (1, .int v1), (2, .int v2), (3, .int v3)], [], LAY, S) := by
  have hT := ok_X2_hasSum
  unfold X2_hasSum_8_b2 at hf
  refine aRun_ok hC hT 3 (cf' := (7, [(0, .ref 8), (1, .int v1), (2, .int v2), (3, .int v3)], [.int (S.1 8 0), .int v3], LAY, S)) (by rfl) ?_
  refine aCmp_ge hC hT (tgt := 38) rfl (by decide) (fun hc1 => ?_) (fun hc1 => ?_)
  · have hf := aIfT hf hc1
    refine aRun_ok hC hT 1 (cf' := (39, [(0, .ref 8), (1, .int v1), (2, .int v2), (3, .int v3)], [.int (0 : Int32)], LAY, S)) (by rfl) ?_
    have e9 := Option.some.inj hf; subst e9
    exact aRetB hC hT hF rfl (Or.inl rfl) rfl
  · have hf := aIfF hf hc1
    refine aRun_ok hC hT 3 (cf' := (13, [(0, .ref 8), (1, .int v1), (2, .int v2), (3, .int v3)], [.int (0 : Int32), .int v3, .ref 8], LAY, S)) (by rfl) ?_
    obtain ⟨w2, ew3, hf⟩ := aLetE hf
    refine aCallV (b := 8) (As := [.int v3, .int (0 : Int32)]) (rest := []) hC hT rfl k_X2_hasSum_53.1 _ _ k_X2_hasSum_53.2 (by decide) (by rfl) (by rfl) (by rfl) (Nat.le_of_ble_eq_true rfl) (by decide) (J_X2_told_8 C.2.2.1 C.1 v3 (0 : Int32) S ew3) ?_
    refine aRun_ok hC hT 1 (cf' := (17, [(0, .ref 8), (1, .int v1), (2, .int v2), (3, .int v3)], [.int v1, .int w2], LAY, S)) (by rfl) ?_
    refine aCmp_ne hC hT (tgt := 32) rfl (by decide) (fun hc4 => ?_) (fun hc4 => ?_)
    · have hf := aIfF hf hc4
      exact X2_hasSum_8_b32_ok hC hF hrec2 v1 v2 v3 hf
    · have hf := aIfT hf hc4
      refine aRun_ok hC hT 3 (cf' := (23, [(0, .ref 8), (1, .int v1), (2, .int v2), (3, .int v3)], [.int (1 : Int32), .int v3, .ref 8], LAY, S)) (by rfl) ?_
      obtain ⟨w5, ew6, hf⟩ := aLetE hf
      refine aCallV (b := 8) (As := [.int v3, .int (1 : Int32)]) (rest := []) hC hT rfl k_X2_hasSum_53.1 _ _ k_X2_hasSum_53.2 (by decide) (by rfl) (by rfl) (by rfl) (Nat.le_of_ble_eq_true rfl) (by decide) (J_X2_told_8 C.2.2.1 C.1 v3 (1 : Int32) S ew6) ?_
      refine aRun_ok hC hT 1 (cf' := (27, [(0, .ref 8), (1, .int v1), (2, .int v2), (3, .int v3)], [.int v2, .int w5], LAY, S)) (by rfl) ?_
      refine aCmp_ne hC hT (tgt := 32) rfl (by decide) (fun hc7 => ?_) (fun hc7 => ?_)
      · have hf := aIfF hf hc7
        exact X2_hasSum_8_b32_ok hC hF hrec2 v1 v2 v3 hf
      · have hf := aIfT hf hc7
        refine aRun_ok hC hT 1 (cf' := (31, [(0, .ref 8), (1, .int v1), (2, .int v2), (3, .int v3)], [.int (1 : Int32)], LAY, S)) (by rfl) ?_
        have e9 := Option.some.inj hf; subst e9
        exact aRetB hC hT hF rfl (Or.inr rfl) rfl
def X2_hasSum_8_l2 (N : Nat) (S : aSt) : Nat → Int32 → Int32 → Int32 → Option (Int32)
  | 0 => fun _ _ _ => none
  | n + 1 => X2_hasSum_8_b2 N S (X2_hasSum_8_l2 N S n)
theorem X2_hasSum_8_l2_ok {C : aC} {N : Nat} {S : aSt} (hC : aCx C M_X2_hasSum) {r : Int32} (hF : aFin C (some (.int r)) LAY S 0 0) : ∀ (n : Nat) (v1 : Int32) (v2 : Int32) (v3 : Int32), X2_hasSum_8_l2 N S n v1 v2 v3 = (some r) → aX C M_X2_hasSum 0 0 (2, [(0, .ref 8), (1, .int v1), (2, .int v2), (3, .int v3)], [], LAY, S)
  | 0, _, _, _,  h => nomatch (show (none : Option (Int32)) = some _ from h)
  | n + 1, v1, v2, v3,  h => X2_hasSum_8_b2_ok hC hF (fun v1 v2 v3 h => X2_hasSum_8_l2_ok hC hF n v1 v2 v3 h) v1 v2 v3 h
def X2_hasSum_8 (N : Nat) (a1 : Int32) (a2 : Int32) (S : aSt) : Option (Int32) := (X2_hasSum_8_l2 N S N a1 a2 (0 : Int32))
set_option maxHeartbeats 4000000 in
set_option maxRecDepth 100000 in
theorem J_X2_hasSum_8 (l : Launch) (g : aWg) (N : Nat) (a1 : Int32) (a2 : Int32) (S : aSt) {r : Int32} (hf : X2_hasSum_8 N a1 a2 S = (some r)) : aJ l g yX2_hasSum M_X2_hasSum [.ref 8, .int a1, .int a2] LAY S (some (.int r)) LAY S 0 0 := by
  refine aJ_of (by decide +kernel) rfl (Nat.le_of_ble_eq_true rfl) (fun h => nomatch h) ?_
  intro C hg hl hC hz hF
  subst hg; subst hl
  have hT := ok_X2_hasSum
  unfold X2_hasSum_8 at hf
  show aX C M_X2_hasSum 0 0 (0, [(0, .ref 8), (1, .int a1), (2, .int a2)], [], LAY, S)
  refine aRun_ok hC hT 2 (cf' := (2, [(3, .int (0 : Int32)), (0, .ref 8), (1, .int a1), (2, .int a2)], [], LAY, S)) (by rfl) ?_
  refine aLocs [1, 2, 3, 0] (lv' := [(0, .ref 8), (1, .int a1), (2, .int a2), (3, .int (0 : Int32))]) rfl ?_
  exact X2_hasSum_8_l2_ok hC hF N a1 a2 (0 : Int32) hf
def X0_isTens_b2 (N : Nat) (rec2 : Int32 → Int32 → Option (Int32)) (v0 : Int32) (v1 : Int32) : Option (Int32) := (if (5 : Int32) < v1 then some ((0 : Int32)) else (aLet (X6_at_1001 v1) (fun w2 => (if v0 = w2 then some ((1 : Int32)) else (rec2 v0 (v1 + (1 : Int32)))))))
set_option maxHeartbeats 4000000 in
set_option maxRecDepth 100000 in
theorem X0_isTens_b2_ok {C : aC} {N : Nat} {S : aSt} {rec2 : Int32 → Int32 → Option (Int32)} (hC : aCx C M_X0_isTens) {r : Int32} (hF : aFin C (some (.int r)) LAY S 0 0) (hrec2 : ∀ (v0 : Int32) (v1 : Int32), rec2 v0 v1 = (some r) → aX C M_X0_isTens 0 0 (2, [(0, .int v0), (1, .int v1)], [], LAY, S)) (v0 : Int32) (v1 : Int32) (hf : X0_isTens_b2 N rec2 v0 v1 = (some r)) : aX C M_X0_isTens 0 0 (2, [(0, .int v0), (1, .int v1)], [], LAY, S) := by
  have hT := ok_X0_isTens
  unfold X0_isTens_b2 at hf
  refine aRun_ok hC hT 2 (cf' := (4, [(0, .int v0), (1, .int v1)], [.int (5 : Int32), .int v1], LAY, S)) (by rfl) ?_
  refine aCmp_gt hC hT (tgt := 26) rfl (by decide) (fun hc1 => ?_) (fun hc1 => ?_)
  · have hf := aIfT hf hc1
    refine aRun_ok hC hT 1 (cf' := (27, [(0, .int v0), (1, .int v1)], [.int (0 : Int32)], LAY, S)) (by rfl) ?_
    have e9 := Option.some.inj hf; subst e9
    exact aRetB hC hT hF rfl (Or.inl rfl) rfl
  · have hf := aIfF hf hc1
    refine aRun_ok hC hT 3 (cf' := (12, [(0, .int v0), (1, .int v1)], [.int v1, .ref 1001, .int v0], LAY, S)) (by rfl) ?_
    obtain ⟨w2, ew3, hf⟩ := aLetE hf
    refine aCallS (As := [.ref 1001, .int v1]) (rest := [.int v0]) hC hT rfl k_X0_isTens_15.1 _ k_X0_isTens_15.2 (by rfl) (Nat.le_of_ble_eq_true rfl) (by decide) (J_X6_at_1001 C.2.2.1 C.1 v1 S ew3) ?_
    refine aCmp_ne hC hT (tgt := 20) rfl (by decide) (fun hc4 => ?_) (fun hc4 => ?_)
    · have hf := aIfF hf hc4
      refine aRun_ok hC hT 2 (cf' := (2, [(1, .int (v1 + (1 : Int32))), (0, .int v0)], [], LAY, S)) (by rfl) ?_
      refine aLocs [1, 0] (lv' := [(0, .int v0), (1, .int (v1 + (1 : Int32)))]) rfl ?_
      exact hrec2 v0 (v1 + (1 : Int32)) hf
    · have hf := aIfT hf hc4
      refine aRun_ok hC hT 1 (cf' := (19, [(0, .int v0), (1, .int v1)], [.int (1 : Int32)], LAY, S)) (by rfl) ?_
      have e9 := Option.some.inj hf; subst e9
      exact aRetB hC hT hF rfl (Or.inr rfl) rfl
def X0_isTens_l2 (N : Nat) : Nat → Int32 → Int32 → Option (Int32)
  | 0 => fun _ _ => none
  | n + 1 => X0_isTens_b2 N (X0_isTens_l2 N n)
theorem X0_isTens_l2_ok {C : aC} {N : Nat} {S : aSt} (hC : aCx C M_X0_isTens) {r : Int32} (hF : aFin C (some (.int r)) LAY S 0 0) : ∀ (n : Nat) (v0 : Int32) (v1 : Int32), X0_isTens_l2 N n v0 v1 = (some r) → aX C M_X0_isTens 0 0 (2, [(0, .int v0), (1, .int v1)], [], LAY, S)
  | 0, _, _,  h => nomatch (show (none : Option (Int32)) = some _ from h)
  | n + 1, v0, v1,  h => X0_isTens_b2_ok hC hF (fun v0 v1 h => X0_isTens_l2_ok hC hF n v0 v1 h) v0 v1 h
def X0_isTens (N : Nat) (a0 : Int32) : Option (Int32) := (X0_isTens_l2 N N a0 (1 : Int32))
set_option maxHeartbeats 4000000 in
set_option maxRecDepth 100000 in
theorem J_X0_isTens (l : Launch) (g : aWg) (N : Nat) (a0 : Int32) (S : aSt) {r : Int32} (hf : X0_isTens N a0 = (some r)) : aJ l g yX0_isTens M_X0_isTens [.int a0] LAY S (some (.int r)) LAY S 0 0 := by
  refine aJ_of (by decide +kernel) rfl (Nat.le_of_ble_eq_true rfl) (fun h => nomatch h) ?_
  intro C hg hl hC hz hF
  subst hg; subst hl
  have hT := ok_X0_isTens
  unfold X0_isTens at hf
  show aX C M_X0_isTens 0 0 (0, [(0, .int a0)], [], LAY, S)
  refine aRun_ok hC hT 2 (cf' := (2, [(1, .int (1 : Int32)), (0, .int a0)], [], LAY, S)) (by rfl) ?_
  refine aLocs [1, 0] (lv' := [(0, .int a0), (1, .int (1 : Int32))]) rfl ?_
  exact X0_isTens_l2_ok hC hF N a0 (1 : Int32) hf
def X10_isNineTimesOrTenths_0_b2 (N : Nat) (S : aSt) (rec2 : Int32 → Int32 → Option (Int32)) (v1 : Int32) (v2 : Int32) : Option (Int32) := (if (S.1 8 0) ≤ v2 then some ((0 : Int32)) else (aLet (X2_told_8 v2 (1 : Int32) S) (fun w2 => (if v1 = ((9 : Int32) * w2) then some ((1 : Int32)) else (if ((10 : Int32) * v1) = ((9 : Int32) * w2) then some ((1 : Int32)) else (rec2 v1 (v2 + (1 : Int32))))))))
set_option maxHeartbeats 4000000 in
set_option maxRecDepth 100000 in
theorem X10_isNineTimesOrTenths_0_b2_ok {C : aC} {N : Nat} {S : aSt} {rec2 : Int32 → Int32 → Option (Int32)} (hC : aCx C M_X10_isNineTimesOrTenths) {r : Int32} (hF : aFin C (some (.int r)) LAY S 0 0) (hrec2 : ∀ (v1 : Int32) (v2 : Int32), rec2 v1 v2 = (some r) → aX C M_X10_isNineTimesOrTenths 0 0 (2, [(0, .ref 0), (1, .int v1), (2, .int v2)], [], LAY, S)) (v1 : Int32) (v2 : Int32) (hf : X10_isNineTimesOrTenths_0_b2 N S rec2 v1 v2 = (some r)) : aX C M_X10_isNineTimesOrTenths 0 0 (2, [(0, .ref 0), (1, .int v1), (2, .int v2)], [], LAY, S) := by
  have hT := ok_X10_isNineTimesOrTenths
  unfold X10_isNineTimesOrTenths_0_b2 at hf
  refine aRun_ok hC hT 4 (cf' := (10, [(0, .ref 0), (1, .int v1), (2, .int v2)], [.int (S.1 8 0), .int v2], LAY, S)) (by rfl) ?_
  refine aCmp_ge hC hT (tgt := 47) rfl (by decide) (fun hc1 => ?_) (fun hc1 => ?_)
  · have hf := aIfT hf hc1
    refine aRun_ok hC hT 1 (cf' := (48, [(0, .ref 0), (1, .int v1), (2, .int v2)], [.int (0 : Int32)], LAY, S)) (by rfl) ?_
    have e9 := Option.some.inj hf; subst e9
    exact aRetB hC hT hF rfl (Or.inl rfl) rfl
  · have hf := aIfF hf hc1
    refine aRun_ok hC hT 5 (cf' := (21, [(0, .ref 0), (1, .int v1), (2, .int v2)], [.int (1 : Int32), .int v2, .ref 8, .int (9 : Int32)], LAY, S)) (by rfl) ?_
    obtain ⟨w2, ew3, hf⟩ := aLetE hf
    refine aCallV (b := 8) (As := [.int v2, .int (1 : Int32)]) (rest := [.int (9 : Int32)]) hC hT rfl k_X10_isNineTimesOrTenths_103.1 _ _ k_X10_isNineTimesOrTenths_103.2 (by decide) (by rfl) (by rfl) (by rfl) (Nat.le_of_ble_eq_true rfl) (by decide) (J_X2_told_8 C.2.2.1 C.1 v2 (1 : Int32) S ew3) ?_
    refine aRun_ok hC hT 4 (cf' := (28, [(3, .int ((9 : Int32) * w2)), (0, .ref 0), (1, .int v1), (2, .int v2)], [.int ((9 : Int32) * w2), .int v1], LAY, S)) (by rfl) ?_
    refine aCmp_eq hC hT (tgt := 39) rfl (by decide) (fun hc4 => ?_) (fun hc4 => ?_)
    · have hf := aIfT hf hc4
      refine aRun_ok hC hT 1 (cf' := (40, [(3, .int ((9 : Int32) * w2)), (0, .ref 0), (1, .int v1), (2, .int v2)], [.int (1 : Int32)], LAY, S)) (by rfl) ?_
      have e9 := Option.some.inj hf; subst e9
      exact aRetB hC hT hF rfl (Or.inr rfl) rfl
    · have hf := aIfF hf hc4
      refine aRun_ok hC hT 4 (cf' := (36, [(3, .int ((9 : Int32) * w2)), (0, .ref 0), (1, .int v1), (2, .int v2)], [.int ((9 : Int32) * w2), .int ((10 : Int32) * v1)], LAY, S)) (by rfl) ?_
      refine aCmp_ne hC hT (tgt := 41) rfl (by decide) (fun hc5 => ?_) (fun hc5 => ?_)
      · have hf := aIfF hf hc5
        refine aRun_ok hC hT 2 (cf' := (2, [(2, .int (v2 + (1 : Int32))), (3, .int ((9 : Int32) * w2)), (0, .ref 0), (1, .int v1)], [], LAY, S)) (by rfl) ?_
        refine aLocs [2, 3, 0] (lv' := [(0, .ref 0), (1, .int v1), (2, .int (v2 + (1 : Int32)))]) rfl ?_
        exact hrec2 v1 (v2 + (1 : Int32)) hf
      · have hf := aIfT hf hc5
        refine aRun_ok hC hT 1 (cf' := (40, [(3, .int ((9 : Int32) * w2)), (0, .ref 0), (1, .int v1), (2, .int v2)], [.int (1 : Int32)], LAY, S)) (by rfl) ?_
        have e9 := Option.some.inj hf; subst e9
        exact aRetB hC hT hF rfl (Or.inr rfl) rfl
def X10_isNineTimesOrTenths_0_l2 (N : Nat) (S : aSt) : Nat → Int32 → Int32 → Option (Int32)
  | 0 => fun _ _ => none
  | n + 1 => X10_isNineTimesOrTenths_0_b2 N S (X10_isNineTimesOrTenths_0_l2 N S n)
theorem X10_isNineTimesOrTenths_0_l2_ok {C : aC} {N : Nat} {S : aSt} (hC : aCx C M_X10_isNineTimesOrTenths) {r : Int32} (hF : aFin C (some (.int r)) LAY S 0 0) : ∀ (n : Nat) (v1 : Int32) (v2 : Int32), X10_isNineTimesOrTenths_0_l2 N S n v1 v2 = (some r) → aX C M_X10_isNineTimesOrTenths 0 0 (2, [(0, .ref 0), (1, .int v1), (2, .int v2)], [], LAY, S)
  | 0, _, _,  h => nomatch (show (none : Option (Int32)) = some _ from h)
  | n + 1, v1, v2,  h => X10_isNineTimesOrTenths_0_b2_ok hC hF (fun v1 v2 h => X10_isNineTimesOrTenths_0_l2_ok hC hF n v1 v2 h) v1 v2 h
def X10_isNineTimesOrTenths_0 (N : Nat) (a1 : Int32) (S : aSt) : Option (Int32) := (X10_isNineTimesOrTenths_0_l2 N S N a1 (0 : Int32))
set_option maxHeartbeats 4000000 in
set_option maxRecDepth 100000 in
theorem J_X10_isNineTimesOrTenths_0 (l : Launch) (g : aWg) (N : Nat) (a1 : Int32) (S : aSt) {r : Int32} (hf : X10_isNineTimesOrTenths_0 N a1 S = (some r)) : aJ l g yX10_isNineTimesOrTenths M_X10_isNineTimesOrTenths [.ref 0, .int a1] LAY S (some (.int r)) LAY S 0 0 := by
  refine aJ_of (by decide +kernel) rfl (Nat.le_of_ble_eq_true rfl) (fun h => nomatch h) ?_
  intro C hg hl hC hz hF
  subst hg; subst hl
  have hT := ok_X10_isNineTimesOrTenths
  unfold X10_isNineTimesOrTenths_0 at hf
  show aX C M_X10_isNineTimesOrTenths 0 0 (0, [(0, .ref 0), (1, .int a1)], [], LAY, S)
  refine aRun_ok hC hT 2 (cf' := (2, [(2, .int (0 : Int32)), (0, .ref 0), (1, .int a1)], [], LAY, S)) (by rfl) ?_
  refine aLocs [1, 2, 0] (lv' := [(0, .ref 0), (1, .int a1), (2, .int (0 : Int32))]) rfl ?_
  exact X10_isNineTimesOrTenths_0_l2_ok hC hF N a1 (0 : Int32) hf
def X10_signs_0_b105 (N : Nat) (S : aSt) (v3 : Int32) (v4 : Int32) : Option (Int32) := (Option.bind (X10_isNineTimesOrTenths_0 N v3 S) (fun w15 => (if w15 = (0 : Int32) then some (v4) else some ((v4 ||| (16 : Int32))))))
set_option maxHeartbeats 4000000 in
set_option maxRecDepth 100000 in
theorem X10_signs_0_b105_ok {C : aC} {N : Nat} {S : aSt} (hC : aCx C M_X10_signs) {r : Int32} (hF : aFin C (some (.int r)) LAY S 0 0) (v3 : Int32) (v4 : Int32) (hf : X10_signs_0_b105 N S v3 v4 = (some r)) : aX C M_X10_signs 0 0 (105, [(0, .ref 0), (3, .int v3), (4, .int v4)], [], LAY, S) := by
  have hT := ok_X10_signs
  unfold X10_signs_0_b105 at hf
  refine aRun_ok hC hT 2 (cf' := (107, [(0, .ref 0), (3, .int v3), (4, .int v4)], [.int v3, .ref 0], LAY, S)) (by rfl) ?_
  obtain ⟨w15, ew16, hf⟩ := aBnE hf
  refine aCallV (b := 0) (As := [.int v3]) (rest := []) hC hT rfl k_X10_signs_166.1 _ _ k_X10_signs_166.2 (by decide) (by rfl) (by rfl) (by rfl) (Nat.le_of_ble_eq_true rfl) (by decide) (J_X10_isNineTimesOrTenths_0 C.2.2.1 C.1 N v3 S ew16) ?_
  refine aIf_eq hC hT (tgt := 120) rfl (by decide) (fun hc17 => ?_) (fun hc17 => ?_)
  · have hf := aIfT hf hc17
    refine aRun_ok hC hT 1 (cf' := (122, [(0, .ref 0), (3, .int v3), (4, .int v4)], [.int v4], LAY, S)) (by rfl) ?_
    have e9 := Option.some.inj hf; subst e9
    exact aRetI hC hT hF rfl rfl
  · have hf := aIfF hf hc17
    refine aRun_ok hC hT 5 (cf' := (122, [(4, .int (v4 ||| (16 : Int32))), (0, .ref 0), (3, .int v3)], [.int (v4 ||| (16 : Int32))], LAY, S)) (by rfl) ?_
    have e9 := Option.some.inj hf; subst e9
    exact aRetI hC hT hF rfl rfl
def X10_signs_0_b91 (N : Nat) (S : aSt) (v3 : Int32) (v4 : Int32) : Option (Int32) := (Option.bind (X0_isTens N v3) (fun w12 => (if w12 = (0 : Int32) then (X10_signs_0_b105 N S v3 v4) else (X10_signs_0_b105 N S v3 (v4 ||| (8 : Int32))))))
set_option maxHeartbeats 4000000 in
set_option maxRecDepth 100000 in
theorem X10_signs_0_b91_ok {C : aC} {N : Nat} {S : aSt} (hC : aCx C M_X10_signs) {r : Int32} (hF : aFin C (some (.int r)) LAY S 0 0) (v3 : Int32) (v4 : Int32) (hf : X10_signs_0_b91 N S v3 v4 = (some r)) : aX C M_X10_signs 0 0 (91, [(0, .ref 0), (3, .int v3), (4, .int v4)], [], LAY, S) := by
  have hT := ok_X10_signs
  unfold X10_signs_0_b91 at hf
  refine aRun_ok hC hT 1 (cf' := (92, [(0, .ref 0), (3, .int v3), (4, .int v4)], [.int v3], LAY, S)) (by rfl) ?_
  obtain ⟨w12, ew13, hf⟩ := aBnE hf
  refine aCallS (As := [.int v3]) (rest := []) hC hT rfl k_X10_signs_161.1 _ k_X10_signs_161.2 (by rfl) (Nat.le_of_ble_eq_true rfl) (by decide) (J_X0_isTens C.2.2.1 C.1 N v3 S ew13) ?_
  refine aIf_eq hC hT (tgt := 105) rfl (by decide) (fun hc14 => ?_) (fun hc14 => ?_)
  · have hf := aIfT hf hc14
    exact X10_signs_0_b105_ok hC hF v3 v4 hf
  · have hf := aIfF hf hc14
    refine aRun_ok hC hT 4 (cf' := (105, [(4, .int (v4 ||| (8 : Int32))), (0, .ref 0), (3, .int v3)], [], LAY, S)) (by rfl) ?_
    refine aLocs [1, 2, 0] (lv' := [(0, .ref 0), (3, .int v3), (4, .int (v4 ||| (8 : Int32)))]) rfl ?_
    exact X10_signs_0_b105_ok hC hF v3 (v4 ||| (8 : Int32)) hf
def X10_signs_0_b73 (N : Nat) (S : aSt) (v2 : Int32) (v3 : Int32) (v4 : Int32) : Option (Int32) := (Option.bind (X2_hasSum_8 N v2 v3 S) (fun w9 => (if w9 = (0 : Int32) then (X10_signs_0_b91 N S v3 v4) else (X10_signs_0_b91 N S v3 (v4 ||| (4 : Int32))))))
set_option maxHeartbeats 4000000 in
set_option maxRecDepth 100000 in
theorem X10_signs_0_b73_ok {C : aC} {N : Nat} {S : aSt} (hC : aCx C M_X10_signs) {r : Int32} (hF : aFin C (some (.int r)) LAY S 0 0) (v2 : Int32) (v3 : Int32) (v4 : Int32) (hf : X10_signs_0_b73 N S v2 v3 v4 = (some r)) : aX C M_X10_signs 0 0 (73, [(0, .ref 0), (2, .int v2), (3, .int v3), (4, .int v4)], [], LAY, S) := by
  have hT := ok_X10_signs
  unfold X10_signs_0_b73 at hf
  refine aRun_ok hC hT 4 (cf' := (79, [(0, .ref 0), (2, .int v2), (3, .int v3), (4, .int v4)], [.int v3, .int v2, .ref 8], LAY, S)) (by rfl) ?_
  obtain ⟨w9, ew10, hf⟩ := aBnE hf
  refine aCallV (b := 8) (As := [.int v2, .int v3]) (rest := []) hC hT rfl k_X10_signs_157.1 _ _ k_X10_signs_157.2 (by decide) (by rfl) (by rfl) (by rfl) (Nat.le_of_ble_eq_true rfl) (by decide) (J_X2_hasSum_8 C.2.2.1 C.1 N v2 v3 S ew10) ?_
  refine aIf_eq hC hT (tgt := 91) rfl (by decide) (fun hc11 => ?_) (fun hc11 => ?_)
  · have hf := aIfT hf hc11
    refine aLocs [0, 2, 3] (lv' := [(0, .ref 0), (3, .int v3), (4, .int v4)]) rfl ?_
    exact X10_signs_0_b91_ok hC hF v3 v4 hf
  · have hf := aIfF hf hc11
    refine aRun_ok hC hT 4 (cf' := (91, [(4, .int (v4 ||| (4 : Int32))), (0, .ref 0), (2, .int v2), (3, .int v3)], [], LAY, S)) (by rfl) ?_
    refine aLocs [1, 3, 0] (lv' := [(0, .ref 0), (3, .int v3), (4, .int (v4 ||| (4 : Int32)))]) rfl ?_
    exact X10_signs_0_b91_ok hC hF v3 (v4 ||| (4 : Int32)) hf
def X10_signs_0_b47 (N : Nat) (S : aSt) (v2 : Int32) (v3 : Int32) (v4 : Int32) : Option (Int32) := (if (v3 - v3 / (2 : Int32) * (2 : Int32)) = (0 : Int32) then (Option.bind (X2_hasSum_8 N v2 (v3 / (2 : Int32)) S) (fun w18 => (if w18 = (0 : Int32) then (X10_signs_0_b73 N S v2 v3 v4) else (X10_signs_0_b73 N S v2 v3 (v4 ||| (2 : Int32)))))) else (X10_signs_0_b73 N S v2 v3 v4))
set_option maxHeartbeats 4000000 in
set_option maxRecDepth 100000 in
theorem X10_signs_0_b47_ok {C : aC} {N : Nat} {S : aSt} (hC : aCx C M_X10_signs) {r : Int32} (hF : aFin C (some (.int r)) LAY S 0 0) (v2 : Int32) (v3 : Int32) (v4 : Int32) (hf : X10_signs_0_b47 N S v2 v3 v4 = (some r)) : aX C M_X10_signs 0 0 (47, [(0, .ref 0), (2, .int v2), (3, .int v3), (4, .int v4)], [], LAY, S) := by
  have hT := ok_X10_signs
  unfold X10_signs_0_b47 at hf
  refine aRun_ok hC hT 3 (cf' := (50, [(0, .ref 0), (2, .int v2), (3, .int v3), (4, .int v4)], [.int (v3 - v3 / (2 : Int32) * (2 : Int32))], LAY, S)) (by rfl) ?_
  refine aIf_ne hC hT (tgt := 73) rfl (by decide) (fun hc8 => ?_) (fun hc8 => ?_)
  · have hf := aIfF hf hc8
    exact X10_signs_0_b73_ok hC hF v2 v3 v4 hf
  · have hf := aIfT hf hc8
    refine aRun_ok hC hT 6 (cf' := (61, [(0, .ref 0), (2, .int v2), (3, .int v3), (4, .int v4)], [.int (v3 / (2 : Int32)), .int v2, .ref 8], LAY, S)) (by rfl) ?_
    obtain ⟨w18, ew19, hf⟩ := aBnE hf
    refine aCallV (b := 8) (As := [.int v2, .int (v3 / (2 : Int32))]) (rest := []) hC hT rfl k_X10_signs_157.1 _ _ k_X10_signs_157.2 (by decide) (by rfl) (by rfl) (by rfl) (Nat.le_of_ble_eq_true rfl) (by decide) (J_X2_hasSum_8 C.2.2.1 C.1 N v2 (v3 / (2 : Int32)) S ew19) ?_
    refine aIf_eq hC hT (tgt := 73) rfl (by decide) (fun hc20 => ?_) (fun hc20 => ?_)
    · have hf := aIfT hf hc20
      exact X10_signs_0_b73_ok hC hF v2 v3 v4 hf
    · have hf := aIfF hf hc20
      refine aRun_ok hC hT 4 (cf' := (73, [(4, .int (v4 ||| (2 : Int32))), (0, .ref 0), (2, .int v2), (3, .int v3)], [], LAY, S)) (by rfl) ?_
      refine aLocs [1, 2, 3, 0] (lv' := [(0, .ref 0), (2, .int v2), (3, .int v3), (4, .int (v4 ||| (2 : Int32)))]) rfl ?_
      exact X10_signs_0_b73_ok hC hF v2 v3 (v4 ||| (2 : Int32)) hf
def X10_signs_0_b25 (N : Nat) (S : aSt) (v1 : Int32) (s0 : Int32) : Option (Int32) := (aLet (J9_abs_0f7a4 v1) (fun w5 => (if (w5 - w5 / (9 : Int32) * (9 : Int32)) = (0 : Int32) then (X10_signs_0_b47 N S s0 w5 ((0 : Int32) ||| (1 : Int32))) else (X10_signs_0_b47 N S s0 w5 (0 : Int32)))))
set_option maxHeartbeats 4000000 in
set_option maxRecDepth 100000 in
theorem X10_signs_0_b25_ok {C : aC} {N : Nat} {S : aSt} (hC : aCx C M_X10_signs) {r : Int32} (hF : aFin C (some (.int r)) LAY S 0 0) (v1 : Int32) (s0 : Int32) (hf : X10_signs_0_b25 N S v1 s0 = (some r)) : aX C M_X10_signs 0 0 (25, [(0, .ref 0), (1, .int v1)], [.int s0], LAY, S) := by
  have hT := ok_X10_signs
  unfold X10_signs_0_b25 at hf
  refine aRun_ok hC hT 2 (cf' := (27, [(2, .int s0), (0, .ref 0), (1, .int v1)], [.int v1], LAY, S)) (by rfl) ?_
  obtain ⟨w5, ew6, hf⟩ := aLetE hf
  refine aCallS (As := [.int v1]) (rest := []) hC hT rfl k_X10_signs_154.1 _ k_X10_signs_154.2 (by rfl) (Nat.le_of_ble_eq_true rfl) (by decide) (J_J9_abs_0f7a4 C.2.2.1 C.1 v1 S ew6) ?_
  refine aRun_ok hC hT 6 (cf' := (38, [(4, .int (0 : Int32)), (3, .int w5), (2, .int s0), (0, .ref 0), (1, .int v1)], [.int (w5 - w5 / (9 : Int32) * (9 : Int32))], LAY, S)) (by rfl) ?_
  refine aIf_ne hC hT (tgt := 47) rfl (by decide) (fun hc7 => ?_) (fun hc7 => ?_)
  · have hf := aIfF hf hc7
    refine aLocs [3, 2, 1, 0] (lv' := [(0, .ref 0), (2, .int s0), (3, .int w5), (4, .int (0 : Int32))]) rfl ?_
    exact X10_signs_0_b47_ok hC hF s0 w5 (0 : Int32) hf
  · have hf := aIfT hf hc7
    refine aRun_ok hC hT 4 (cf' := (47, [(4, .int ((0 : Int32) ||| (1 : Int32))), (3, .int w5), (2, .int s0), (0, .ref 0), (1, .int v1)], [], LAY, S)) (by rfl) ?_
    refine aLocs [3, 2, 1, 0] (lv' := [(0, .ref 0), (2, .int s0), (3, .int w5), (4, .int ((0 : Int32) ||| (1 : Int32)))]) rfl ?_
    exact X10_signs_0_b47_ok hC hF s0 w5 ((0 : Int32) ||| (1 : Int32)) hf
def X10_signs_0 (N : Nat) (S : aSt) : Option (Int32) := (Option.bind (X2_outOf_8 N ((-1) : Int32) S) (fun w1 => (if w1 = (0 : Int32) then some (((-4) : Int32)) else (if w1 ≤ (0 : Int32) then (X10_signs_0_b25 N S w1 (1 : Int32)) else (X10_signs_0_b25 N S w1 (0 : Int32))))))
set_option maxHeartbeats 4000000 in
set_option maxRecDepth 100000 in
theorem J_X10_signs_0 (l : Launch) (g : aWg) (N : Nat) (S : aSt) {r : Int32} (hf : X10_signs_0 N S = (some r)) : aJ l g yX10_signs M_X10_signs [.ref 0] LAY S (some (.int r)) LAY S 0 0 := by
  refine aJ_of (by decide +kernel) rfl (Nat.le_of_ble_eq_true rfl) (fun h => nomatch h) ?_
  intro C hg hl hC hz hF
  subst hg; subst hl
  have hT := ok_X10_signs
  unfold X10_signs_0 at hf
  show aX C M_X10_signs 0 0 (0, [(0, .ref 0)], [], LAY, S)
  refine aRun_ok hC hT 3 (cf' := (5, [(0, .ref 0)], [.int ((-1) : Int32), .ref 8], LAY, S)) (by rfl) ?_
  obtain ⟨w1, ew2, hf⟩ := aBnE hf
  refine aCallV (b := 8) (As := [.int ((-1) : Int32)]) (rest := []) hC hT rfl k_X10_signs_110.1 _ _ k_X10_signs_110.2 (by decide) (by rfl) (by rfl) (by rfl) (Nat.le_of_ble_eq_true rfl) (by decide) (J_X2_outOf_8 C.2.2.1 C.1 N ((-1) : Int32) S ew2) ?_
  refine aRun_ok hC hT 2 (cf' := (10, [(1, .int w1), (0, .ref 0)], [.int w1], LAY, S)) (by rfl) ?_
  refine aIf_ne hC hT (tgt := 16) rfl (by decide) (fun hc3 => ?_) (fun hc3 => ?_)
  · have hf := aIfF hf hc3
    refine aRun_ok hC hT 1 (cf' := (17, [(1, .int w1), (0, .ref 0)], [.int w1], LAY, S)) (by rfl) ?_
    refine aIf_le hC hT (tgt := 24) rfl (by decide) (fun hc4 => ?_) (fun hc4 => ?_)
    · have hf := aIfT hf hc4
      refine aRun_ok hC hT 1 (cf' := (25, [(1, .int w1), (0, .ref 0)], [.int (1 : Int32)], LAY, S)) (by rfl) ?_
      refine aLocs [1, 0] (lv' := [(0, .ref 0), (1, .int w1)]) rfl ?_
      exact X10_signs_0_b25_ok hC hF w1 (1 : Int32) hf
    · have hf := aIfF hf hc4
      refine aRun_ok hC hT 2 (cf' := (25, [(1, .int w1), (0, .ref 0)], [.int (0 : Int32)], LAY, S)) (by rfl) ?_
      refine aLocs [1, 0] (lv' := [(0, .ref 0), (1, .int w1)]) rfl ?_
      exact X10_signs_0_b25_ok hC hF w1 (0 : Int32) hf
  · have hf := aIfT hf hc3
    refine aRun_ok hC hT 1 (cf' := (15, [(1, .int w1), (0, .ref 0)], [.int ((-4) : Int32)], LAY, S)) (by rfl) ?_
    have e9 := Option.some.inj hf; subst e9
    exact aRetI hC hT hF rfl rfl
def X2_remove_8_b45 (N : Nat) (S : aSt) : Option (aSt) := some ((aI (aI S 8 0 ((S.1 8 0) - (1 : Int32))) 8 4 ((S.1 8 4) + (1 : Int32))))
set_option maxHeartbeats 4000000 in
set_option maxRecDepth 100000 in
theorem X2_remove_8_b45_ok {C : aC} {N : Nat} (hC : aCx C M_X2_remove) {r : aSt} (hF : aFin C none LAY r 0 0) (S : aSt) (hf : X2_remove_8_b45 N S = (some r)) : aX C M_X2_remove 0 0 (45, [(0, .ref 8)], [], LAY, S) := by
  have hT := ok_X2_remove
  unfold X2_remove_8_b45 at hf
  refine aRun_ok hC hT 12 (cf' := (65, [(0, .ref 8)], [], LAY, (aI (aI S 8 0 ((S.1 8 0) - (1 : Int32))) 8 4 ((S.1 8 4) + (1 : Int32))))) (by rfl) ?_
  have e9 := Option.some.inj hf; subst e9
  exact aRetV hC hT hF rfl rfl
def X2_remove_8_b39 (N : Nat) (rec4 : Int32 → aSt → Option (aSt)) (v2 : Int32) (S : aSt) : Option (aSt) := (rec4 (v2 + (1 : Int32)) S)
set_option maxHeartbeats 4000000 in
set_option maxRecDepth 100000 in
theorem X2_remove_8_b39_ok {C : aC} {N : Nat} {rec4 : Int32 → aSt → Option (aSt)} (hC : aCx C M_X2_remove) {r : aSt} (hF : aFin C none LAY r 0 0) (hrec4 : ∀ (v2 : Int32) (S : aSt), rec4 v2 S = (some r) → aX C M_X2_remove 0 0 (4, [(0, .ref 8), (2, .int v2)], [], LAY, S)) (v2 : Int32) (S : aSt) (hf : X2_remove_8_b39 N rec4 v2 S = (some r)) : aX C M_X2_remove 0 0 (39, [(0, .ref 8), (2, .int v2)], [], LAY, S) := by
  have hT := ok_X2_remove
  unfold X2_remove_8_b39 at hf
  refine aRun_ok hC hT 2 (cf' := (4, [(2, .int (v2 + (1 : Int32))), (0, .ref 8)], [], LAY, S)) (by rfl) ?_
  refine aLocs [1, 0] (lv' := [(0, .ref 8), (2, .int (v2 + (1 : Int32)))]) rfl ?_
  exact hrec4 (v2 + (1 : Int32)) S hf
def X2_remove_8_b14 (N : Nat) (rec4 : Int32 → aSt → Option (aSt)) (rec14 : Int32 → Int32 → aSt → Option (aSt)) (v2 : Int32) (v3 : Int32) (S : aSt) : Option (aSt) := (if (5 : Int32) ≤ v3 then (X2_remove_8_b39 N rec4 v2 S) else (aLet (X2_told_8 v2 v3 S) (fun w3 => (aLet (X2_setPart_8 (v2 - (1 : Int32)) v3 w3 S) (fun w5 => (rec14 v2 (v3 + (1 : Int32)) w5))))))
set_option maxHeartbeats 4000000 in
set_option maxRecDepth 100000 in
theorem X2_remove_8_b14_ok {C : aC} {N : Nat} {rec4 : Int32 → aSt → Option (aSt)} {rec14 : Int32 → Int32 → aSt → Option (aSt)} (hC : aCx C M_X2_remove) {r : aSt} (hF : aFin C none LAY r 0 0) (hrec4 : ∀ (v2 : Int32) (S : aSt), rec4 v2 S = (some r) → aX C M_X2_remove 0 0 (4, [(0, .ref 8), (2, .int v2)], [], LAY, S)) (hrec14 : ∀ (v2 : Int32) (v3 : Int32) (S : aSt), rec14 v2 v3 S = (some r) → aX C M_X2_remove 0 0 (14, [(0, .ref 8), (2, .int v2), (3, .int v3)], [], LAY, S)) (v2 : Int32) (v3 : Int32) (S : aSt) (hf : X2_remove_8_b14 N rec4 rec14 v2 v3 S = (some r)) : aX C M_X2_remove 0 0 (14, [(0, .ref 8), (2, .int v2), (3, .int v3)], [], LAY, S) := by
  have hT := ok_X2_remove
  unfold X2_remove_8_b14 at hf
  refine aRun_ok hC hT 2 (cf' := (16, [(0, .ref 8), (2, .int v2), (3, .int v3)], [.int (5 : Int32), .int v3], LAY, S)) (by rfl) ?_
  refine aCmp_ge hC hT (tgt := 39) rfl (by decide) (fun hc2 => ?_) (fun hc2 => ?_)
  · have hf := aIfT hf hc2
    refine aLocs [0, 1] (lv' := [(0, .ref 8), (2, .int v2)]) rfl ?_
    exact X2_remove_8_b39_ok hC hF hrec4 v2 S hf
  · have hf := aIfF hf hc2
    refine aRun_ok hC hT 8 (cf' := (27, [(0, .ref 8), (2, .int v2), (3, .int v3)], [.int v3, .int v2, .ref 8, .int v3, .int (v2 - (1 : Int32)), .ref 8], LAY, S)) (by rfl) ?_
    obtain ⟨w3, ew4, hf⟩ := aLetE hf
    refine aCallV (b := 8) (As := [.int v2, .int v3]) (rest := [.int v3, .int (v2 - (1 : Int32)), .ref 8]) hC hT rfl k_X2_remove_53.1 _ _ k_X2_remove_53.2 (by decide) (by rfl) (by rfl) (by rfl) (Nat.le_of_ble_eq_true rfl) (by decide) (J_X2_told_8 C.2.2.1 C.1 v2 v3 S ew4) ?_
    obtain ⟨w5, ew6, hf⟩ := aLetE hf
    refine aCallV (b := 8) (As := [.int (v2 - (1 : Int32)), .int v3, .int w3]) (rest := []) hC hT rfl k_X2_remove_68.1 _ _ k_X2_remove_68.2 (by decide) (by rfl) (by rfl) (by rfl) (Nat.le_of_ble_eq_true rfl) (by decide) (J_X2_setPart_8 C.2.2.1 C.1 (v2 - (1 : Int32)) v3 w3 S ew6) ?_
    refine aRun_ok hC hT 2 (cf' := (14, [(3, .int (v3 + (1 : Int32))), (0, .ref 8), (2, .int v2)], [], LAY, w5)) (by rfl) ?_
    refine aLocs [1, 2, 0] (lv' := [(0, .ref 8), (2, .int v2), (3, .int (v3 + (1 : Int32)))]) rfl ?_
    exact hrec14 v2 (v3 + (1 : Int32)) w5 hf
def X2_remove_8_l14 (N : Nat) (rec4 : Int32 → aSt → Option (aSt)) : Nat → Int32 → Int32 → aSt → Option (aSt)
  | 0 => fun _ _ _ => none
  | n + 1 => X2_remove_8_b14 N rec4 (X2_remove_8_l14 N rec4 n)
theorem X2_remove_8_l14_ok {C : aC} {N : Nat} {rec4 : Int32 → aSt → Option (aSt)} (hC : aCx C M_X2_remove) {r : aSt} (hF : aFin C none LAY r 0 0) (hrec4 : ∀ (v2 : Int32) (S : aSt), rec4 v2 S = (some r) → aX C M_X2_remove 0 0 (4, [(0, .ref 8), (2, .int v2)], [], LAY, S)) : ∀ (n : Nat) (v2 : Int32) (v3 : Int32) (S : aSt), X2_remove_8_l14 N rec4 n v2 v3 S = (some r) → aX C M_X2_remove 0 0 (14, [(0, .ref 8), (2, .int v2), (3, .int v3)], [], LAY, S)
  | 0, _, _, _,  h => nomatch (show (none : Option (aSt)) = some _ from h)
  | n + 1, v2, v3, S,  h => X2_remove_8_b14_ok hC hF hrec4 (fun v2 v3 S h => X2_remove_8_l14_ok hC hF hrec4 n v2 v3 S h) v2 v3 S h
def X2_remove_8_b4 (N : Nat) (rec4 : Int32 → aSt → Option (aSt)) (v2 : Int32) (S : aSt) : Option (aSt) := (if (S.1 8 0) ≤ v2 then (X2_remove_8_b45 N S) else (X2_remove_8_l14 N rec4 N v2 (0 : Int32) S))
set_option maxHeartbeats 4000000 in
set_option maxRecDepth 100000 in
theorem X2_remove_8_b4_ok {C : aC} {N : Nat} {rec4 : Int32 → aSt → Option (aSt)} (hC : aCx C M_X2_remove) {r : aSt} (hF : aFin C none LAY r 0 0) (hrec4 : ∀ (v2 : Int32) (S : aSt), rec4 v2 S = (some r) → aX C M_X2_remove 0 0 (4, [(0, .ref 8), (2, .int v2)], [], LAY, S)) (v2 : Int32) (S : aSt) (hf : X2_remove_8_b4 N rec4 v2 S = (some r)) : aX C M_X2_remove 0 0 (4, [(0, .ref 8), (2, .int v2)], [], LAY, S) := by
  have hT := ok_X2_remove
  unfold X2_remove_8_b4 at hf
  refine aRun_ok hC hT 3 (cf' := (9, [(0, .ref 8), (2, .int v2)], [.int (S.1 8 0), .int v2], LAY, S)) (by rfl) ?_
  refine aCmp_ge hC hT (tgt := 45) rfl (by decide) (fun hc1 => ?_) (fun hc1 => ?_)
  · have hf := aIfT hf hc1
    refine aLocs [0] (lv' := [(0, .ref 8)]) rfl ?_
    exact X2_remove_8_b45_ok hC hF S hf
  · have hf := aIfF hf hc1
    refine aRun_ok hC hT 2 (cf' := (14, [(3, .int (0 : Int32)), (0, .ref 8), (2, .int v2)], [], LAY, S)) (by rfl) ?_
    refine aLocs [1, 2, 0] (lv' := [(0, .ref 8), (2, .int v2), (3, .int (0 : Int32))]) rfl ?_
    exact X2_remove_8_l14_ok hC hF hrec4 N v2 (0 : Int32) S hf
def X2_remove_8_l4 (N : Nat) : Nat → Int32 → aSt → Option (aSt)
  | 0 => fun _ _ => none
  | n + 1 => X2_remove_8_b4 N (X2_remove_8_l4 N n)
theorem X2_remove_8_l4_ok {C : aC} {N : Nat} (hC : aCx C M_X2_remove) {r : aSt} (hF : aFin C none LAY r 0 0) : ∀ (n : Nat) (v2 : Int32) (S : aSt), X2_remove_8_l4 N n v2 S = (some r) → aX C M_X2_remove 0 0 (4, [(0, .ref 8), (2, .int v2)], [], LAY, S)
  | 0, _, _,  h => nomatch (show (none : Option (aSt)) = some _ from h)
  | n + 1, v2, S,  h => X2_remove_8_b4_ok hC hF (fun v2 S h => X2_remove_8_l4_ok hC hF n v2 S h) v2 S h
def X2_remove_8 (N : Nat) (a1 : Int32) (S : aSt) : Option (aSt) := (X2_remove_8_l4 N N (a1 + (1 : Int32)) S)
set_option maxHeartbeats 4000000 in
set_option maxRecDepth 100000 in
theorem J_X2_remove_8 (l : Launch) (g : aWg) (N : Nat) (a1 : Int32) (S : aSt) {r : aSt} (hf : X2_remove_8 N a1 S = (some r)) : aJ l g yX2_remove M_X2_remove [.ref 8, .int a1] LAY S none LAY r 0 0 := by
  refine aJ_of (by decide +kernel) rfl (Nat.le_of_ble_eq_true rfl) (fun h => nomatch h) ?_
  intro C hg hl hC hz hF
  subst hg; subst hl
  have hT := ok_X2_remove
  unfold X2_remove_8 at hf
  show aX C M_X2_remove 0 0 (0, [(0, .ref 8), (1, .int a1)], [], LAY, S)
  refine aRun_ok hC hT 4 (cf' := (4, [(2, .int (a1 + (1 : Int32))), (0, .ref 8), (1, .int a1)], [], LAY, S)) (by rfl) ?_
  refine aLocs [1, 0] (lv' := [(0, .ref 8), (2, .int (a1 + (1 : Int32)))]) rfl ?_
  exact X2_remove_8_l4_ok hC hF N (a1 + (1 : Int32)) S hf
def X10_strike_0 (N : Nat) (a1 : Int32) (S : aSt) : Option (Int32 × aSt) := (aLet (X2_holds_8 a1 S) (fun w1 => (if w1 = (0 : Int32) then some ((((-2) : Int32), S)) else (Option.bind (X2_remove_8 N a1 S) (fun w4 => some (((w4.1 8 0), w4)))))))
set_option maxHeartbeats 4000000 in
set_option maxRecDepth 100000 in
theorem J_X10_strike_0 (l : Launch) (g : aWg) (N : Nat) (a1 : Int32) (S : aSt) {r : Int32 × aSt} (hf : X10_strike_0 N a1 S = (some r)) : aJ l g yX10_strike M_X10_strike [.ref 0, .int a1] LAY S (some (.int r.1)) LAY r.2 0 0 := by
  refine aJ_of (by decide +kernel) rfl (Nat.le_of_ble_eq_true rfl) (fun h => nomatch h) ?_
  intro C hg hl hC hz hF
  subst hg; subst hl
  have hT := ok_X10_strike
  unfold X10_strike_0 at hf
  show aX C M_X10_strike 0 0 (0, [(0, .ref 0), (1, .int a1)], [], LAY, S)
  refine aRun_ok hC hT 3 (cf' := (5, [(0, .ref 0), (1, .int a1)], [.int a1, .ref 8], LAY, S)) (by rfl) ?_
  obtain ⟨w1, ew2, hf⟩ := aLetE hf
  refine aCallV (b := 8) (As := [.int a1]) (rest := []) hC hT rfl k_X10_strike_99.1 _ _ k_X10_strike_99.2 (by decide) (by rfl) (by rfl) (by rfl) (Nat.le_of_ble_eq_true rfl) (by decide) (J_X2_holds_8 C.2.2.1 C.1 a1 S ew2) ?_
  refine aIf_ne hC hT (tgt := 14) rfl (by decide) (fun hc3 => ?_) (fun hc3 => ?_)
  · have hf := aIfF hf hc3
    refine aRun_ok hC hT 3 (cf' := (19, [(0, .ref 0), (1, .int a1)], [.int a1, .ref 8], LAY, S)) (by rfl) ?_
    obtain ⟨w4, ew5, hf⟩ := aBnE hf
    refine aCallV (b := 8) (As := [.int a1]) (rest := []) hC hT rfl k_X10_strike_148.1 _ _ k_X10_strike_148.2 (by decide) (by rfl) (by rfl) (by rfl) (Nat.le_of_ble_eq_true rfl) (by decide) (J_X2_remove_8 C.2.2.1 C.1 N a1 S ew5) ?_
    refine aRun_ok hC hT 3 (cf' := (29, [(0, .ref 0), (1, .int a1)], [.int (w4.1 8 0)], LAY, w4)) (by rfl) ?_
    have e9 := Option.some.inj hf; subst e9
    exact aRetI hC hT hF rfl rfl
  · have hf := aIfT hf hc3
    refine aRun_ok hC hT 1 (cf' := (13, [(0, .ref 0), (1, .int a1)], [.int ((-2) : Int32)], LAY, S)) (by rfl) ?_
    have e9 := Option.some.inj hf; subst e9
    exact aRetI hC hT hF rfl rfl
def X10_two_0 (N : Nat) (a1 : Int32) (S : aSt) : Option (Int64 × aSt) := (if a1 < (0 : Int32) then some ((((-3) : Int64), S)) else (if a1 ≤ (1 : Int32) then (Option.bind (X10_workOut_0 N S) (fun w3 => (if a1 = (0 : Int32) then some (((w3.2.1 28 0), w3)) else some (((w3.2.1 28 1), w3))))) else some ((((-3) : Int64), S))))
set_option maxHeartbeats 4000000 in
set_option maxRecDepth 100000 in
theorem J_X10_two_0 (l : Launch) (g : aWg) (N : Nat) (a1 : Int32) (S : aSt) {r : Int64 × aSt} (hf : X10_two_0 N a1 S = (some r)) : aJ l g yX10_two M_X10_two [.ref 0, .int a1] LAY S (some (.long r.1)) LAY r.2 0 0 := by
  refine aJ_of (by decide +kernel) rfl (Nat.le_of_ble_eq_true rfl) (fun h => nomatch h) ?_
  intro C hg hl hC hz hF
  subst hg; subst hl
  have hT := ok_X10_two
  unfold X10_two_0 at hf
  show aX C M_X10_two 0 0 (0, [(0, .ref 0), (1, .int a1)], [], LAY, S)
  refine aRun_ok hC hT 1 (cf' := (1, [(0, .ref 0), (1, .int a1)], [.int a1], LAY, S)) (by rfl) ?_
  refine aIf_lt hC hT (tgt := 9) rfl (by decide) (fun hc1 => ?_) (fun hc1 => ?_)
  · have hf := aIfT hf hc1
    refine aRun_ok hC hT 1 (cf' := (12, [(0, .ref 0), (1, .int a1)], [.long ((-3) : Int64)], LAY, S)) (by rfl) ?_
    have e9 := Option.some.inj hf; subst e9
    exact aRetL hC hT hF rfl rfl
  · have hf := aIfF hf hc1
    refine aRun_ok hC hT 2 (cf' := (6, [(0, .ref 0), (1, .int a1)], [.int (1 : Int32), .int a1], LAY, S)) (by rfl) ?_
    refine aCmp_le hC hT (tgt := 13) rfl (by decide) (fun hc2 => ?_) (fun hc2 => ?_)
    · have hf := aIfT hf hc2
      refine aRun_ok hC hT 1 (cf' := (14, [(0, .ref 0), (1, .int a1)], [.ref 0], LAY, S)) (by rfl) ?_
      obtain ⟨w3, ew4, hf⟩ := aBnE hf
      refine aCallV (b := 0) (As := []) (rest := []) hC hT rfl k_X10_two_169.1 _ _ k_X10_two_169.2 (by decide) (by rfl) (by rfl) (by rfl) (Nat.le_of_ble_eq_true rfl) (by decide) (J_X10_workOut_0 C.2.2.1 C.1 N  S ew4) ?_
      refine aRun_ok hC hT 1 (cf' := (18, [(0, .ref 0), (1, .int a1)], [.int a1], LAY, w3)) (by rfl) ?_
      refine aIf_ne hC hT (tgt := 31) rfl (by decide) (fun hc5 => ?_) (fun hc5 => ?_)
      · have hf := aIfF hf hc5
        refine aRun_ok hC hT 3 (cf' := (38, [(0, .ref 0), (1, .int a1)], [.long (w3.2.1 28 1)], LAY, w3)) (by rfl) ?_
        have e9 := Option.some.inj hf; subst e9
        exact aRetL hC hT hF rfl rfl
      · have hf := aIfT hf hc5
        refine aRun_ok hC hT 4 (cf' := (38, [(0, .ref 0), (1, .int a1)], [.long (w3.2.1 28 0)], LAY, w3)) (by rfl) ?_
        have e9 := Option.some.inj hf; subst e9
        exact aRetL hC hT hF rfl rfl
    · have hf := aIfF hf hc2
      refine aRun_ok hC hT 1 (cf' := (12, [(0, .ref 0), (1, .int a1)], [.long ((-3) : Int64)], LAY, S)) (by rfl) ?_
      have e9 := Option.some.inj hf; subst e9
      exact aRetL hC hT hF rfl rfl
def X7_weightsOfHand_22_b69 (N : Nat) (S : aSt) (rec5 : Int32 → Int64 → Int32 → Option (Int64)) (v1 : Int32) (v2 : Int64) (v4 : Int32) : Option (Int64) := (rec5 v1 v2 (v4 + (1 : Int32)))
set_option maxHeartbeats 4000000 in
set_option maxRecDepth 100000 in
theorem X7_weightsOfHand_22_b69_ok {C : aC} {N : Nat} {S : aSt} {rec5 : Int32 → Int64 → Int32 → Option (Int64)} (hC : aCx C M_X7_weightsOfHand) {r : Int64} (hF : aFin C (some (.long r)) LAY S 0 0) (hrec5 : ∀ (v1 : Int32) (v2 : Int64) (v4 : Int32), rec5 v1 v2 v4 = (some r) → aX C M_X7_weightsOfHand 0 0 (5, [(0, .ref 22), (1, .int v1), (2, .long v2), (4, .int v4)], [], LAY, S)) (v1 : Int32) (v2 : Int64) (v4 : Int32) (hf : X7_weightsOfHand_22_b69 N S rec5 v1 v2 v4 = (some r)) : aX C M_X7_weightsOfHand 0 0 (69, [(0, .ref 22), (1, .int v1), (2, .long v2), (4, .int v4)], [], LAY, S) := by
  have hT := ok_X7_weightsOfHand
  unfold X7_weightsOfHand_22_b69 at hf
  refine aRun_ok hC hT 2 (cf' := (5, [(4, .int (v4 + (1 : Int32))), (0, .ref 22), (1, .int v1), (2, .long v2)], [], LAY, S)) (by rfl) ?_
  refine aLocs [1, 2, 3, 0] (lv' := [(0, .ref 22), (1, .int v1), (2, .long v2), (4, .int (v4 + (1 : Int32)))]) rfl ?_
  exact hrec5 v1 v2 (v4 + (1 : Int32)) hf
def X7_weightsOfHand_22_b5 (N : Nat) (S : aSt) (rec5 : Int32 → Int64 → Int32 → Option (Int64)) (v1 : Int32) (v2 : Int64) (v4 : Int32) : Option (Int64) := (if (S.1 22 0) ≤ v4 then some (v2) else (aLet (X7_slip_22 v4 S) (fun w2 => (aLet (X8_kind_14 w2 S) (fun w4 => (if (5 : Int32) ≤ w4 then (X7_weightsOfHand_22_b69 N S rec5 v1 v2 v4) else (aLet (X8_place_14 w2 S) (fun w7 => (aLet (X2_told_8 w7 (3 : Int32) S) (fun w9 => (if w9 = v1 then (aLet (X8_weight_14 w2 S) (fun w12 => (X7_weightsOfHand_22_b69 N S rec5 v1 (v2 + (w12.toInt64)) v4))) else (X7_weightsOfHand_22_b69 N S rec5 v1 v2 v4))))))))))))
set_option maxHeartbeats 4000000 in
set_option maxRecDepth 100000 in
theorem X7_weightsOfHand_22_b5_ok {C : aC} {N : Nat} {S : aSt} {rec5 : Int32 → Int64 → Int32 → Option (Int64)} (hC : aCx C M_X7_weightsOfHand) {r : Int64} (hF : aFin C (some (.long r)) LAY S 0 0) (hrec5 : ∀ (v1 : Int32) (v2 : Int64) (v4 : Int32), rec5 v1 v2 v4 = (some r) → aX C M_X7_weightsOfHand 0 0 (5, [(0, .ref 22), (1, .int v1), (2, .long v2), (4, .int v4)], [], LAY, S)) (v1 : Int32) (v2 : Int64) (v4 : Int32) (hf : X7_weightsOfHand_22_b5 N S rec5 v1 v2 v4 = (some r)) : aX C M_X7_weightsOfHand 0 0 (5, [(0, .ref 22), (1, .int v1), (2, .long v2), (4, .int v4)], [], LAY, S) := by
  have hT := ok_X7_weightsOfHand
  unfold X7_weightsOfHand_22_b5 at hf
  refine aRun_ok hC hT 3 (cf' := (11, [(0, .ref 22), (1, .int v1), (2, .long v2), (4, .int v4)], [.int (S.1 22 0), .int v4], LAY, S)) (by rfl) ?_
  refine aCmp_ge hC hT (tgt := 75) rfl (by decide) (fun hc1 => ?_) (fun hc1 => ?_)
  · have hf := aIfT hf hc1
    refine aRun_ok hC hT 1 (cf' := (76, [(0, .ref 22), (1, .int v1), (2, .long v2), (4, .int v4)], [.long v2], LAY, S)) (by rfl) ?_
    have e9 := Option.some.inj hf; subst e9
    exact aRetL hC hT hF rfl rfl
  · have hf := aIfF hf hc1
    refine aRun_ok hC hT 2 (cf' := (17, [(0, .ref 22), (1, .int v1), (2, .long v2), (4, .int v4)], [.int v4, .ref 22], LAY, S)) (by rfl) ?_
    obtain ⟨w2, ew3, hf⟩ := aLetE hf
    refine aCallV (b := 22) (As := [.int v4]) (rest := []) hC hT rfl k_X7_weightsOfHand_67.1 _ _ k_X7_weightsOfHand_67.2 (by decide) (by rfl) (by rfl) (by rfl) (Nat.le_of_ble_eq_true rfl) (by decide) (J_X7_slip_22 C.2.2.1 C.1 v4 S ew3) ?_
    refine aRun_ok hC hT 4 (cf' := (28, [(5, .int w2), (0, .ref 22), (1, .int v1), (2, .long v2), (4, .int v4)], [.int w2, .ref 14], LAY, S)) (by rfl) ?_
    obtain ⟨w4, ew5, hf⟩ := aLetE hf
    refine aCallV (b := 14) (As := [.int w2]) (rest := []) hC hT rfl k_X7_weightsOfHand_70.1 _ _ k_X7_weightsOfHand_70.2 (by decide) (by rfl) (by rfl) (by rfl) (Nat.le_of_ble_eq_true rfl) (by decide) (J_X8_kind_14 C.2.2.1 C.1 w2 S ew5) ?_
    refine aRun_ok hC hT 1 (cf' := (32, [(5, .int w2), (0, .ref 22), (1, .int v1), (2, .long v2), (4, .int v4)], [.int (5 : Int32), .int w4], LAY, S)) (by rfl) ?_
    refine aCmp_ge hC hT (tgt := 69) rfl (by decide) (fun hc6 => ?_) (fun hc6 => ?_)
    · have hf := aIfT hf hc6
      refine aLocs [1, 2, 3, 4] (lv' := [(0, .ref 22), (1, .int v1), (2, .long v2), (4, .int v4)]) rfl ?_
      exact X7_weightsOfHand_22_b69_ok hC hF hrec5 v1 v2 v4 hf
    · have hf := aIfF hf hc6
      refine aRun_ok hC hT 5 (cf' := (45, [(5, .int w2), (0, .ref 22), (1, .int v1), (2, .long v2), (4, .int v4)], [.int w2, .ref 14, .ref 8], LAY, S)) (by rfl) ?_
      obtain ⟨w7, ew8, hf⟩ := aLetE hf
      refine aCallV (b := 14) (As := [.int w2]) (rest := [.ref 8]) hC hT rfl k_X7_weightsOfHand_73.1 _ _ k_X7_weightsOfHand_73.2 (by decide) (by rfl) (by rfl) (by rfl) (Nat.le_of_ble_eq_true rfl) (by decide) (J_X8_place_14 C.2.2.1 C.1 w2 S ew8) ?_
      refine aRun_ok hC hT 1 (cf' := (49, [(5, .int w2), (0, .ref 22), (1, .int v1), (2, .long v2), (4, .int v4)], [.int (3 : Int32), .int w7, .ref 8], LAY, S)) (by rfl) ?_
      obtain ⟨w9, ew10, hf⟩ := aLetE hf
      refine aCallV (b := 8) (As := [.int w7, .int (3 : Int32)]) (rest := []) hC hT rfl k_X7_weightsOfHand_76.1 _ _ k_X7_weightsOfHand_76.2 (by decide) (by rfl) (by rfl) (by rfl) (Nat.le_of_ble_eq_true rfl) (by decide) (J_X2_told_8 C.2.2.1 C.1 w7 (3 : Int32) S ew10) ?_
      refine aRun_ok hC hT 1 (cf' := (53, [(5, .int w2), (0, .ref 22), (1, .int v1), (2, .long v2), (4, .int v4)], [.int v1, .int w9], LAY, S)) (by rfl) ?_
      refine aCmp_ne hC hT (tgt := 69) rfl (by decide) (fun hc11 => ?_) (fun hc11 => ?_)
      · have hf := aIfF hf hc11
        refine aLocs [1, 2, 3, 4] (lv' := [(0, .ref 22), (1, .int v1), (2, .long v2), (4, .int v4)]) rfl ?_
        exact X7_weightsOfHand_22_b69_ok hC hF hrec5 v1 v2 v4 hf
      · have hf := aIfT hf hc11
        refine aRun_ok hC hT 4 (cf' := (63, [(5, .int w2), (0, .ref 22), (1, .int v1), (2, .long v2), (4, .int v4)], [.int w2, .ref 14, .long v2], LAY, S)) (by rfl) ?_
        obtain ⟨w12, ew13, hf⟩ := aLetE hf
        refine aCallV (b := 14) (As := [.int w2]) (rest := [.long v2]) hC hT rfl k_X7_weightsOfHand_64.1 _ _ k_X7_weightsOfHand_64.2 (by decide) (by rfl) (by rfl) (by rfl) (Nat.le_of_ble_eq_true rfl) (by decide) (J_X8_weight_14 C.2.2.1 C.1 w2 S ew13) ?_
        refine aRun_ok hC hT 3 (cf' := (69, [(2, .long (v2 + (w12.toInt64))), (5, .int w2), (0, .ref 22), (1, .int v1), (4, .int v4)], [], LAY, S)) (by rfl) ?_
        refine aLocs [2, 3, 0, 4] (lv' := [(0, .ref 22), (1, .int v1), (2, .long (v2 + (w12.toInt64))), (4, .int v4)]) rfl ?_
        exact X7_weightsOfHand_22_b69_ok hC hF hrec5 v1 (v2 + (w12.toInt64)) v4 hf
def X7_weightsOfHand_22_l5 (N : Nat) (S : aSt) : Nat → Int32 → Int64 → Int32 → Option (Int64)
  | 0 => fun _ _ _ => none
  | n + 1 => X7_weightsOfHand_22_b5 N S (X7_weightsOfHand_22_l5 N S n)
theorem X7_weightsOfHand_22_l5_ok {C : aC} {N : Nat} {S : aSt} (hC : aCx C M_X7_weightsOfHand) {r : Int64} (hF : aFin C (some (.long r)) LAY S 0 0) : ∀ (n : Nat) (v1 : Int32) (v2 : Int64) (v4 : Int32), X7_weightsOfHand_22_l5 N S n v1 v2 v4 = (some r) → aX C M_X7_weightsOfHand 0 0 (5, [(0, .ref 22), (1, .int v1), (2, .long v2), (4, .int v4)], [], LAY, S)
  | 0, _, _, _,  h => nomatch (show (none : Option (Int64)) = some _ from h)
  | n + 1, v1, v2, v4,  h => X7_weightsOfHand_22_b5_ok hC hF (fun v1 v2 v4 h => X7_weightsOfHand_22_l5_ok hC hF n v1 v2 v4 h) v1 v2 v4 h
def X7_weightsOfHand_22 (N : Nat) (a1 : Int32) (S : aSt) : Option (Int64) := (X7_weightsOfHand_22_l5 N S N a1 (0 : Int64) (0 : Int32))
set_option maxHeartbeats 4000000 in
set_option maxRecDepth 100000 in
theorem J_X7_weightsOfHand_22 (l : Launch) (g : aWg) (N : Nat) (a1 : Int32) (S : aSt) {r : Int64} (hf : X7_weightsOfHand_22 N a1 S = (some r)) : aJ l g yX7_weightsOfHand M_X7_weightsOfHand [.ref 22, .int a1] LAY S (some (.long r)) LAY S 0 0 := by
  refine aJ_of (by decide +kernel) rfl (Nat.le_of_ble_eq_true rfl) (fun h => nomatch h) ?_
  intro C hg hl hC hz hF
  subst hg; subst hl
  have hT := ok_X7_weightsOfHand
  unfold X7_weightsOfHand_22 at hf
  show aX C M_X7_weightsOfHand 0 0 (0, [(0, .ref 22), (1, .int a1)], [], LAY, S)
  refine aRun_ok hC hT 4 (cf' := (5, [(4, .int (0 : Int32)), (2, .long (0 : Int64)), (0, .ref 22), (1, .int a1)], [], LAY, S)) (by rfl) ?_
  refine aLocs [2, 3, 1, 0] (lv' := [(0, .ref 22), (1, .int a1), (2, .long (0 : Int64)), (4, .int (0 : Int32))]) rfl ?_
  exact X7_weightsOfHand_22_l5_ok hC hF N a1 (0 : Int64) (0 : Int32) hf
def X10_whose_0 (N : Nat) (a1 : Int32) (a2 : Int32) (S : aSt) : Option (Int32 × aSt) := (aLet (X10_isHand a1) (fun w1 => (if w1 = (0 : Int32) then some ((((-2) : Int32), S)) else (aLet (X10_isPart a2) (fun w4 => (if w4 = (0 : Int32) then some ((((-3) : Int32), S)) else (Option.bind (X10_workOut_0 N S) (fun w7 => (if (w7.1 22 0) = (0 : Int32) then some ((((-4) : Int32), w7)) else (Option.bind (X7_weightsOfHand_22 N a1 w7) (fun w10 => (Option.bind (X1_lowest N w10 (w7.2.1 22 1) a2) (fun w12 => some (((w12.toInt32), w7)))))))))))))))
set_option maxHeartbeats 4000000 in
set_option maxRecDepth 100000 in
theorem J_X10_whose_0 (l : Launch) (g : aWg) (N : Nat) (a1 : Int32) (a2 : Int32) (S : aSt) {r : Int32 × aSt} (hf : X10_whose_0 N a1 a2 S = (some r)) : aJ l g yX10_whose M_X10_whose [.ref 0, .int a1, .int a2] LAY S (some (.int r.1)) LAY r.2 0 0 := by
  refine aJ_of (by decide +kernel) rfl (Nat.le_of_ble_eq_true rfl) (fun h => nomatch h) ?_
  intro C hg hl hC hz hF
  subst hg; subst hl
  have hT := ok_X10_whose
  unfold X10_whose_0 at hf
  show aX C M_X10_whose 0 0 (0, [(0, .ref 0), (1, .int a1), (2, .int a2)], [], LAY, S)
  refine aRun_ok hC hT 1 (cf' := (1, [(0, .ref 0), (1, .int a1), (2, .int a2)], [.int a1], LAY, S)) (by rfl) ?_
  obtain ⟨w1, ew2, hf⟩ := aLetE hf
  refine aCallS (As := [.int a1]) (rest := []) hC hT rfl k_X10_whose_121.1 _ k_X10_whose_121.2 (by rfl) (Nat.le_of_ble_eq_true rfl) (by decide) (J_X10_isHand C.2.2.1 C.1 a1 S ew2) ?_
  refine aIf_ne hC hT (tgt := 10) rfl (by decide) (fun hc3 => ?_) (fun hc3 => ?_)
  · have hf := aIfF hf hc3
    refine aRun_ok hC hT 1 (cf' := (11, [(0, .ref 0), (1, .int a1), (2, .int a2)], [.int a2], LAY, S)) (by rfl) ?_
    obtain ⟨w4, ew5, hf⟩ := aLetE hf
    refine aCallS (As := [.int a2]) (rest := []) hC hT rfl k_X10_whose_197.1 _ k_X10_whose_197.2 (by rfl) (Nat.le_of_ble_eq_true rfl) (by decide) (J_X10_isPart C.2.2.1 C.1 a2 S ew5) ?_
    refine aIf_ne hC hT (tgt := 20) rfl (by decide) (fun hc6 => ?_) (fun hc6 => ?_)
    · have hf := aIfF hf hc6
      refine aRun_ok hC hT 1 (cf' := (21, [(0, .ref 0), (1, .int a1), (2, .int a2)], [.ref 0], LAY, S)) (by rfl) ?_
      obtain ⟨w7, ew8, hf⟩ := aBnE hf
      refine aCallV (b := 0) (As := []) (rest := []) hC hT rfl k_X10_whose_169.1 _ _ k_X10_whose_169.2 (by decide) (by rfl) (by rfl) (by rfl) (Nat.le_of_ble_eq_true rfl) (by decide) (J_X10_workOut_0 C.2.2.1 C.1 N  S ew8) ?_
      refine aRun_ok hC hT 3 (cf' := (31, [(0, .ref 0), (1, .int a1), (2, .int a2)], [.int (w7.1 22 0)], LAY, w7)) (by rfl) ?_
      refine aIf_ne hC hT (tgt := 37) rfl (by decide) (fun hc9 => ?_) (fun hc9 => ?_)
      · have hf := aIfF hf hc9
        refine aRun_ok hC hT 3 (cf' := (42, [(0, .ref 0), (1, .int a1), (2, .int a2)], [.int a1, .ref 22], LAY, w7)) (by rfl) ?_
        obtain ⟨w10, ew11, hf⟩ := aBnE hf
        refine aCallV (b := 22) (As := [.int a1]) (rest := []) hC hT rfl k_X10_whose_213.1 _ _ k_X10_whose_213.2 (by decide) (by rfl) (by rfl) (by rfl) (Nat.le_of_ble_eq_true rfl) (by decide) (J_X7_weightsOfHand_22 C.2.2.1 C.1 N a1 w7 ew11) ?_
        refine aRun_ok hC hT 4 (cf' := (53, [(0, .ref 0), (1, .int a1), (2, .int a2)], [.int a2, .long (w7.2.1 22 1), .long w10], LAY, w7)) (by rfl) ?_
        obtain ⟨w12, ew13, hf⟩ := aBnE hf
        refine aCallS (As := [.long w10, .long (w7.2.1 22 1), .int a2]) (rest := []) hC hT rfl k_X10_whose_207.1 _ k_X10_whose_207.2 (by rfl) (Nat.le_of_ble_eq_true rfl) (by decide) (J_X1_lowest C.2.2.1 C.1 N w10 (w7.2.1 22 1) a2 w7 ew13) ?_
        refine aRun_ok hC hT 1 (cf' := (57, [(0, .ref 0), (1, .int a1), (2, .int a2)], [.int (w12.toInt32)], LAY, w7)) (by rfl) ?_
        have e9 := Option.some.inj hf; subst e9
        exact aRetI hC hT hF rfl rfl
      · have hf := aIfT hf hc9
        refine aRun_ok hC hT 1 (cf' := (36, [(0, .ref 0), (1, .int a1), (2, .int a2)], [.int ((-4) : Int32)], LAY, w7)) (by rfl) ?_
        have e9 := Option.some.inj hf; subst e9
        exact aRetI hC hT hF rfl rfl
    · have hf := aIfT hf hc6
      refine aRun_ok hC hT 1 (cf' := (19, [(0, .ref 0), (1, .int a1), (2, .int a2)], [.int ((-3) : Int32)], LAY, S)) (by rfl) ?_
      have e9 := Option.some.inj hf; subst e9
      exact aRetI hC hT hF rfl rfl
  · have hf := aIfT hf hc3
    refine aRun_ok hC hT 1 (cf' := (9, [(0, .ref 0), (1, .int a1), (2, .int a2)], [.int ((-2) : Int32)], LAY, S)) (by rfl) ?_
    have e9 := Option.some.inj hf; subst e9
    exact aRetI hC hT hF rfl rfl
def X6_set_2 (a1 : Int32) (a2 : Int32) (S : aSt) : aSt := (if a1 < (0 : Int32) then S else (if (200 : Int32) ≤ a1 then S else (aA S 2 (upd (S.2.2 2) a1.toNatClampNeg a2))))
set_option maxHeartbeats 4000000 in
set_option maxRecDepth 100000 in
theorem J_X6_set_2 (l : Launch) (g : aWg) (a1 : Int32) (a2 : Int32) (S : aSt) {r : aSt} (hf : X6_set_2 a1 a2 S = r) : aJ l g yX6_set M_X6_set [.ref 2, .int a1, .int a2] LAY S none LAY r 0 0 := by
  refine aJ_of (by decide +kernel) rfl (Nat.le_of_ble_eq_true rfl) (fun h => nomatch h) ?_
  intro C hg hl hC hz hF
  subst hg; subst hl
  have hT := ok_X6_set
  unfold X6_set_2 at hf
  show aX C M_X6_set 0 0 (0, [(0, .ref 2), (1, .int a1), (2, .int a2)], [], LAY, S)
  refine aRun_ok hC hT 1 (cf' := (1, [(0, .ref 2), (1, .int a1), (2, .int a2)], [.int a1], LAY, S)) (by rfl) ?_
  refine aIf_lt hC hT (tgt := 14) rfl (by decide) (fun hc1 => ?_) (fun hc1 => ?_)
  · have hf := aIfT hf hc1
    subst hf
    exact aRetV hC hT hF rfl rfl
  · have hf := aIfF hf hc1
    refine aRun_ok hC hT 3 (cf' := (7, [(0, .ref 2), (1, .int a1), (2, .int a2)], [.int (200 : Int32), .int a1], LAY, S)) (by rfl) ?_
    refine aCmp_ge hC hT (tgt := 14) rfl (by decide) (fun hc2 => ?_) (fun hc2 => ?_)
    · have hf := aIfT hf hc2
      subst hf
      exact aRetV hC hT hF rfl rfl
    · have hf := aIfF hf hc2
      refine aRun_ok hC hT 3 (cf' := (13, [(0, .ref 2), (1, .int a1), (2, .int a2)], [.int a2, .int a1, .ref 2], LAY, S)) (by rfl) ?_
      refine aIast hC hT rfl (by decide) (by rfl) (aIx_of hc1 hc2 (by decide)) ?_
      subst hf
      exact aRetV hC hT hF rfl rfl
def X9_append_1 (a1 : Int32) (S : aSt) : aSt := (aLet (X6_set_2 (S.1 1 0) a1 S) (fun w1 => (aI w1 1 0 ((w1.1 1 0) + (1 : Int32)))))
set_option maxHeartbeats 4000000 in
set_option maxRecDepth 100000 in
theorem J_X9_append_1 (l : Launch) (g : aWg) (a1 : Int32) (S : aSt) {r : aSt} (hf : X9_append_1 a1 S = r) : aJ l g yX9_append M_X9_append [.ref 1, .int a1] LAY S none LAY r 0 0 := by
  refine aJ_of (by decide +kernel) rfl (Nat.le_of_ble_eq_true rfl) (fun h => nomatch h) ?_
  intro C hg hl hC hz hF
  subst hg; subst hl
  have hT := ok_X9_append
  unfold X9_append_1 at hf
  show aX C M_X9_append 0 0 (0, [(0, .ref 1), (1, .int a1)], [], LAY, S)
  refine aRun_ok hC hT 5 (cf' := (9, [(0, .ref 1), (1, .int a1)], [.int a1, .int (S.1 1 0), .ref 2], LAY, S)) (by rfl) ?_
  obtain ⟨w1, ew2, hf⟩ := aLetE hf
  refine aCallS (As := [.ref 2, .int (S.1 1 0), .int a1]) (rest := []) hC hT rfl k_X9_append_34.1 _ k_X9_append_34.2 (by rfl) (Nat.le_of_ble_eq_true rfl) (by decide) (J_X6_set_2 C.2.2.1 C.1 (S.1 1 0) a1 S ew2) ?_
  refine aRun_ok hC hT 6 (cf' := (22, [(0, .ref 1), (1, .int a1)], [], LAY, (aI w1 1 0 ((w1.1 1 0) + (1 : Int32))))) (by rfl) ?_
  subst hf
  exact aRetV hC hT hF rfl rfl
def X10_write_0_b35 (N : Nat) (rec35 : Int64 → Int32 → Int32 → aSt → Option (Int32 × aSt)) (v1 : Int64) (v3 : Int32) (v4 : Int32) (S : aSt) : Option (Int32 × aSt) := (if v3 ≤ v4 then some (((S.1 1 0), S)) else (aLet (X9_append_1 (((v1 >>> (((8 : Int32) * v4).toInt64 &&& 63)) &&& (255 : Int64)).toInt32) S) (fun w5 => (rec35 v1 v3 (v4 + (1 : Int32)) w5))))
set_option maxHeartbeats 4000000 in
set_option maxRecDepth 100000 in
theorem X10_write_0_b35_ok {C : aC} {N : Nat} {rec35 : Int64 → Int32 → Int32 → aSt → Option (Int32 × aSt)} (hC : aCx C M_X10_write) {r : Int32 × aSt} (hF : aFin C (some (.int r.1)) LAY r.2 0 0) (hrec35 : ∀ (v1 : Int64) (v3 : Int32) (v4 : Int32) (S : aSt), rec35 v1 v3 v4 S = (some r) → aX C M_X10_write 0 0 (35, [(0, .ref 0), (1, .long v1), (3, .int v3), (4, .int v4)], [], LAY, S)) (v1 : Int64) (v3 : Int32) (v4 : Int32) (S : aSt) (hf : X10_write_0_b35 N rec35 v1 v3 v4 S = (some r)) : aX C M_X10_write 0 0 (35, [(0, .ref 0), (1, .long v1), (3, .int v3), (4, .int v4)], [], LAY, S) := by
  have hT := ok_X10_write
  unfold X10_write_0_b35 at hf
  refine aRun_ok hC hT 2 (cf' := (38, [(0, .ref 0), (1, .long v1), (3, .int v3), (4, .int v4)], [.int v3, .int v4], LAY, S)) (by rfl) ?_
  refine aCmp_ge hC hT (tgt := 66) rfl (by decide) (fun hc4 => ?_) (fun hc4 => ?_)
  · have hf := aIfT hf hc4
    refine aRun_ok hC hT 3 (cf' := (73, [(0, .ref 0), (1, .long v1), (3, .int v3), (4, .int v4)], [.int (S.1 1 0)], LAY, S)) (by rfl) ?_
    have e9 := Option.some.inj hf; subst e9
    exact aRetI hC hT hF rfl rfl
  · have hf := aIfF hf hc4
    refine aRun_ok hC hT 10 (cf' := (57, [(0, .ref 0), (1, .long v1), (3, .int v3), (4, .int v4)], [.int (((v1 >>> (((8 : Int32) * v4).toInt64 &&& 63)) &&& (255 : Int64)).toInt32), .ref 1], LAY, S)) (by rfl) ?_
    obtain ⟨w5, ew6, hf⟩ := aLetE hf
    refine aCallV (b := 1) (As := [.int (((v1 >>> (((8 : Int32) * v4).toInt64 &&& 63)) &&& (255 : Int64)).toInt32)]) (rest := []) hC hT rfl k_X10_write_84.1 _ _ k_X10_write_84.2 (by decide) (by rfl) (by rfl) (by rfl) (Nat.le_of_ble_eq_true rfl) (by decide) (J_X9_append_1 C.2.2.1 C.1 (((v1 >>> (((8 : Int32) * v4).toInt64 &&& 63)) &&& (255 : Int64)).toInt32) S ew6) ?_
    refine aRun_ok hC hT 2 (cf' := (35, [(4, .int (v4 + (1 : Int32))), (0, .ref 0), (1, .long v1), (3, .int v3)], [], LAY, w5)) (by rfl) ?_
    refine aLocs [1, 2, 3, 0] (lv' := [(0, .ref 0), (1, .long v1), (3, .int v3), (4, .int (v4 + (1 : Int32)))]) rfl ?_
    exact hrec35 v1 v3 (v4 + (1 : Int32)) w5 hf
def X10_write_0_l35 (N : Nat) : Nat → Int64 → Int32 → Int32 → aSt → Option (Int32 × aSt)
  | 0 => fun _ _ _ _ => none
  | n + 1 => X10_write_0_b35 N (X10_write_0_l35 N n)
theorem X10_write_0_l35_ok {C : aC} {N : Nat} (hC : aCx C M_X10_write) {r : Int32 × aSt} (hF : aFin C (some (.int r.1)) LAY r.2 0 0) : ∀ (n : Nat) (v1 : Int64) (v3 : Int32) (v4 : Int32) (S : aSt), X10_write_0_l35 N n v1 v3 v4 S = (some r) → aX C M_X10_write 0 0 (35, [(0, .ref 0), (1, .long v1), (3, .int v3), (4, .int v4)], [], LAY, S)
  | 0, _, _, _, _,  h => nomatch (show (none : Option (Int32 × aSt)) = some _ from h)
  | n + 1, v1, v3, v4, S,  h => X10_write_0_b35_ok hC hF (fun v1 v3 v4 S h => X10_write_0_l35_ok hC hF n v1 v3 v4 S h) v1 v3 v4 S h
def X10_write_0 (N : Nat) (a1 : Int64) (a3 : Int32) (S : aSt) : Option (Int32 × aSt) := (if a3 < (1 : Int32) then some ((((-3) : Int32), S)) else (if a3 ≤ (8 : Int32) then (if ((S.1 1 0) + a3) ≤ (200 : Int32) then (X10_write_0_l35 N N a1 a3 (0 : Int32) S) else some ((((-5) : Int32), S))) else some ((((-3) : Int32), S))))
set_option maxHeartbeats 4000000 in
set_option maxRecDepth 100000 in
theorem J_X10_write_0 (l : Launch) (g : aWg) (N : Nat) (a1 : Int64) (a3 : Int32) (S : aSt) {r : Int32 × aSt} (hf : X10_write_0 N a1 a3 S = (some r)) : aJ l g yX10_write M_X10_write [.ref 0, .long a1, .int a3] LAY S (some (.int r.1)) LAY r.2 0 0 := by
  refine aJ_of (by decide +kernel) rfl (Nat.le_of_ble_eq_true rfl) (fun h => nomatch h) ?_
  intro C hg hl hC hz hF
  subst hg; subst hl
  have hT := ok_X10_write
  unfold X10_write_0 at hf
  show aX C M_X10_write 0 0 (0, [(0, .ref 0), (1, .long a1), (3, .int a3)], [], LAY, S)
  refine aRun_ok hC hT 2 (cf' := (2, [(0, .ref 0), (1, .long a1), (3, .int a3)], [.int (1 : Int32), .int a3], LAY, S)) (by rfl) ?_
  refine aCmp_lt hC hT (tgt := 11) rfl (by decide) (fun hc1 => ?_) (fun hc1 => ?_)
  · have hf := aIfT hf hc1
    refine aRun_ok hC hT 1 (cf' := (13, [(0, .ref 0), (1, .long a1), (3, .int a3)], [.int ((-3) : Int32)], LAY, S)) (by rfl) ?_
    have e9 := Option.some.inj hf; subst e9
    exact aRetI hC hT hF rfl rfl
  · have hf := aIfF hf hc1
    refine aRun_ok hC hT 2 (cf' := (8, [(0, .ref 0), (1, .long a1), (3, .int a3)], [.int (8 : Int32), .int a3], LAY, S)) (by rfl) ?_
    refine aCmp_le hC hT (tgt := 14) rfl (by decide) (fun hc2 => ?_) (fun hc2 => ?_)
    · have hf := aIfT hf hc2
      refine aRun_ok hC hT 6 (cf' := (26, [(0, .ref 0), (1, .long a1), (3, .int a3)], [.int (200 : Int32), .int ((S.1 1 0) + a3)], LAY, S)) (by rfl) ?_
      refine aCmp_le hC hT (tgt := 32) rfl (by decide) (fun hc3 => ?_) (fun hc3 => ?_)
      · have hf := aIfT hf hc3
        refine aRun_ok hC hT 2 (cf' := (35, [(4, .int (0 : Int32)), (0, .ref 0), (1, .long a1), (3, .int a3)], [], LAY, S)) (by rfl) ?_
        refine aLocs [1, 2, 3, 0] (lv' := [(0, .ref 0), (1, .long a1), (3, .int a3), (4, .int (0 : Int32))]) rfl ?_
        exact X10_write_0_l35_ok hC hF N a1 a3 (0 : Int32) S hf
      · have hf := aIfF hf hc3
        refine aRun_ok hC hT 1 (cf' := (31, [(0, .ref 0), (1, .long a1), (3, .int a3)], [.int ((-5) : Int32)], LAY, S)) (by rfl) ?_
        have e9 := Option.some.inj hf; subst e9
        exact aRetI hC hT hF rfl rfl
    · have hf := aIfF hf hc2
      refine aRun_ok hC hT 1 (cf' := (13, [(0, .ref 0), (1, .long a1), (3, .int a3)], [.int ((-3) : Int32)], LAY, S)) (by rfl) ?_
      have e9 := Option.some.inj hf; subst e9
      exact aRetI hC hT hF rfl rfl
def X11_sort_b16 (v0 : Int32) : Int32 := (if v0 < (48 : Int32) then (0 : Int32) else (if (57 : Int32) < v0 then (0 : Int32) else (2 : Int32)))
set_option maxHeartbeats 4000000 in
set_option maxRecDepth 100000 in
theorem X11_sort_b16_ok {C : aC} {S : aSt} (hC : aCx C M_X11_sort) {r : Int32} (hF : aFin C (some (.int r)) LAY S 0 0) (v0 : Int32) (hf : X11_sort_b16 v0 = r) : aX C M_X11_sort 0 0 (16, [(0, .int v0)], [], LAY, S) := by
  have hT := ok_X11_sort
  unfold X11_sort_b16 at hf
  refine aRun_ok hC hT 2 (cf' := (19, [(0, .int v0)], [.int (48 : Int32), .int v0], LAY, S)) (by rfl) ?_
  refine aCmp_lt hC hT (tgt := 32) rfl (by decide) (fun hc2 => ?_) (fun hc2 => ?_)
  · have hf := aIfT hf hc2
    refine aRun_ok hC hT 1 (cf' := (33, [(0, .int v0)], [.int (0 : Int32)], LAY, S)) (by rfl) ?_
    subst hf
    exact aRetI hC hT hF rfl rfl
  · have hf := aIfF hf hc2
    refine aRun_ok hC hT 2 (cf' := (25, [(0, .int v0)], [.int (57 : Int32), .int v0], LAY, S)) (by rfl) ?_
    refine aCmp_gt hC hT (tgt := 32) rfl (by decide) (fun hc3 => ?_) (fun hc3 => ?_)
    · have hf := aIfT hf hc3
      refine aRun_ok hC hT 1 (cf' := (33, [(0, .int v0)], [.int (0 : Int32)], LAY, S)) (by rfl) ?_
      subst hf
      exact aRetI hC hT hF rfl rfl
    · have hf := aIfF hf hc3
      refine aRun_ok hC hT 2 (cf' := (33, [(0, .int v0)], [.int (2 : Int32)], LAY, S)) (by rfl) ?_
      subst hf
      exact aRetI hC hT hF rfl rfl
def X11_sort (a0 : Int32) : Int32 := (if a0 < (97 : Int32) then (X11_sort_b16 a0) else (if (122 : Int32) < a0 then (X11_sort_b16 a0) else (1 : Int32)))
set_option maxHeartbeats 4000000 in
set_option maxRecDepth 100000 in
theorem J_X11_sort (l : Launch) (g : aWg) (a0 : Int32) (S : aSt) {r : Int32} (hf : X11_sort a0 = r) : aJ l g yX11_sort M_X11_sort [.int a0] LAY S (some (.int r)) LAY S 0 0 := by
  refine aJ_of (by decide +kernel) rfl (Nat.le_of_ble_eq_true rfl) (fun h => nomatch h) ?_
  intro C hg hl hC hz hF
  subst hg; subst hl
  have hT := ok_X11_sort
  unfold X11_sort at hf
  show aX C M_X11_sort 0 0 (0, [(0, .int a0)], [], LAY, S)
  refine aRun_ok hC hT 2 (cf' := (3, [(0, .int a0)], [.int (97 : Int32), .int a0], LAY, S)) (by rfl) ?_
  refine aCmp_lt hC hT (tgt := 16) rfl (by decide) (fun hc1 => ?_) (fun hc1 => ?_)
  · have hf := aIfT hf hc1
    exact X11_sort_b16_ok hC hF a0 hf
  · have hf := aIfF hf hc1
    refine aRun_ok hC hT 2 (cf' := (9, [(0, .int a0)], [.int (122 : Int32), .int a0], LAY, S)) (by rfl) ?_
    refine aCmp_gt hC hT (tgt := 16) rfl (by decide) (fun hc4 => ?_) (fun hc4 => ?_)
    · have hf := aIfT hf hc4
      exact X11_sort_b16_ok hC hF a0 hf
    · have hf := aIfF hf hc4
      refine aRun_ok hC hT 2 (cf' := (33, [(0, .int a0)], [.int (1 : Int32)], LAY, S)) (by rfl) ?_
      subst hf
      exact aRetI hC hT hF rfl rfl
def X11_token_42_b137 (N : Nat) (S : aSt) : Option (aSt) := some ((aI S 42 17 (S.1 42 15)))
set_option maxHeartbeats 4000000 in
set_option maxRecDepth 100000 in
theorem X11_token_42_b137_ok {C : aC} {N : Nat} (hC : aCx C M_X11_token) {r : aSt} (hF : aFin C none LAY r 0 0) (S : aSt) (hf : X11_token_42_b137 N S = (some r)) : aX C M_X11_token 0 0 (137, [(0, .ref 42)], [], LAY, S) := by
  have hT := ok_X11_token
  unfold X11_token_42_b137 at hf
  refine aRun_ok hC hT 4 (cf' := (145, [(0, .ref 42)], [], LAY, (aI S 42 17 (S.1 42 15)))) (by rfl) ?_
  have e9 := Option.some.inj hf; subst e9
  exact aRetV hC hT hF rfl rfl
def X11_token_42_b71 (N : Nat) (rec71 : aSt → Option (aSt)) (S : aSt) : Option (aSt) := (if (S.1 42 1) ≤ (S.1 42 15) then (X11_token_42_b137 N S) else (if aIx (S.1 42 16) 200 = true then (aLet (X11_sort ((S.2.2 43) (S.1 42 16).toNatClampNeg)) (fun w5 => (if w5 ≤ (0 : Int32) then (X11_token_42_b137 N S) else (if aIx (S.1 42 15) 200 = true then (aLet (X11_sort ((S.2.2 43) (S.1 42 15).toNatClampNeg)) (fun w9 => (if aIx (S.1 42 16) 200 = true then (aLet (X11_sort ((S.2.2 43) (S.1 42 16).toNatClampNeg)) (fun w12 => (if w9 = w12 then (rec71 (aI S 42 15 ((S.1 42 15) + (1 : Int32)))) else (X11_token_42_b137 N S)))) else none))) else none)))) else none))
set_option maxHeartbeats 4000000 in
set_option maxRecDepth 100000 in
theorem X11_token_42_b71_ok {C : aC} {N : Nat} {rec71 : aSt → Option (aSt)} (hC : aCx C M_X11_token) {r : aSt} (hF : aFin C none LAY r 0 0) (hrec71 : ∀ (S : aSt), rec71 S = (some r) → aX C M_X11_token 0 0 (71, [(0, .ref 42)], [], LAY, S)) (S : aSt) (hf : X11_token_42_b71 N rec71 S = (some r)) : aX C M_X11_token 0 0 (71, [(0, .ref 42)], [], LAY, S) := by
  have hT := ok_X11_token
  unfold X11_token_42_b71 at hf
  refine aRun_ok hC hT 4 (cf' := (79, [(0, .ref 42)], [.int (S.1 42 1), .int (S.1 42 15)], LAY, S)) (by rfl) ?_
  refine aCmp_ge hC hT (tgt := 137) rfl (by decide) (fun hc3 => ?_) (fun hc3 => ?_)
  · have hf := aIfT hf hc3
    exact X11_token_42_b137_ok hC hF S hf
  · have hf := aIfF hf hc3
    refine aRun_ok hC hT 4 (cf' := (90, [(0, .ref 42)], [.int (S.1 42 16), .ref 43], LAY, S)) (by rfl) ?_
    obtain ⟨hin4, hf⟩ := aGdE hf
    refine aIald hC hT rfl (by decide) (by rfl) hin4 ?_
    obtain ⟨w5, ew6, hf⟩ := aLetE hf
    refine aCallS (As := [.int ((S.2.2 43) (S.1 42 16).toNatClampNeg)]) (rest := []) hC hT rfl k_X11_token_85.1 _ k_X11_token_85.2 (by rfl) (Nat.le_of_ble_eq_true rfl) (by decide) (J_X11_sort C.2.2.1 C.1 ((S.2.2 43) (S.1 42 16).toNatClampNeg) S ew6) ?_
    refine aIf_le hC hT (tgt := 137) rfl (by decide) (fun hc7 => ?_) (fun hc7 => ?_)
    · have hf := aIfT hf hc7
      exact X11_token_42_b137_ok hC hF S hf
    · have hf := aIfF hf hc7
      refine aRun_ok hC hT 4 (cf' := (105, [(0, .ref 42)], [.int (S.1 42 15), .ref 43], LAY, S)) (by rfl) ?_
      obtain ⟨hin8, hf⟩ := aGdE hf
      refine aIald hC hT rfl (by decide) (by rfl) hin8 ?_
      obtain ⟨w9, ew10, hf⟩ := aLetE hf
      refine aCallS (As := [.int ((S.2.2 43) (S.1 42 15).toNatClampNeg)]) (rest := []) hC hT rfl k_X11_token_85.1 _ k_X11_token_85.2 (by rfl) (Nat.le_of_ble_eq_true rfl) (by decide) (J_X11_sort C.2.2.1 C.1 ((S.2.2 43) (S.1 42 15).toNatClampNeg) S ew10) ?_
      refine aRun_ok hC hT 4 (cf' := (117, [(0, .ref 42)], [.int (S.1 42 16), .ref 43, .int w9], LAY, S)) (by rfl) ?_
      obtain ⟨hin11, hf⟩ := aGdE hf
      refine aIald hC hT rfl (by decide) (by rfl) hin11 ?_
      obtain ⟨w12, ew13, hf⟩ := aLetE hf
      refine aCallS (As := [.int ((S.2.2 43) (S.1 42 16).toNatClampNeg)]) (rest := [.int w9]) hC hT rfl k_X11_token_85.1 _ k_X11_token_85.2 (by rfl) (Nat.le_of_ble_eq_true rfl) (by decide) (J_X11_sort C.2.2.1 C.1 ((S.2.2 43) (S.1 42 16).toNatClampNeg) S ew13) ?_
      refine aCmp_ne hC hT (tgt := 137) rfl (by decide) (fun hc14 => ?_) (fun hc14 => ?_)
      · have hf := aIfF hf hc14
        exact X11_token_42_b137_ok hC hF S hf
      · have hf := aIfT hf hc14
        refine aRun_ok hC hT 7 (cf' := (71, [(0, .ref 42)], [], LAY, (aI S 42 15 ((S.1 42 15) + (1 : Int32))))) (by rfl) ?_
        exact hrec71 (aI S 42 15 ((S.1 42 15) + (1 : Int32))) hf
def X11_token_42_l71 (N : Nat) : Nat → aSt → Option (aSt)
  | 0 => fun _ => none
  | n + 1 => X11_token_42_b71 N (X11_token_42_l71 N n)
theorem X11_token_42_l71_ok {C : aC} {N : Nat} (hC : aCx C M_X11_token) {r : aSt} (hF : aFin C none LAY r 0 0) : ∀ (n : Nat) (S : aSt), X11_token_42_l71 N n S = (some r) → aX C M_X11_token 0 0 (71, [(0, .ref 42)], [], LAY, S)
  | 0, _,  h => nomatch (show (none : Option (aSt)) = some _ from h)
  | n + 1, S,  h => X11_token_42_b71_ok hC hF (fun S h => X11_token_42_l71_ok hC hF n S h) S h
def X11_token_42_b67 (N : Nat) (s0 : Int32) (s1 : Int32) (S : aSt) : Option (aSt) := (X11_token_42_l71 N N (aI S 42 15 (s1 + s0)))
set_option maxHeartbeats 4000000 in
set_option maxRecDepth 100000 in
theorem X11_token_42_b67_ok {C : aC} {N : Nat} (hC : aCx C M_X11_token) {r : aSt} (hF : aFin C none LAY r 0 0) (s0 : Int32) (s1 : Int32) (S : aSt) (hf : X11_token_42_b67 N s0 s1 S = (some r)) : aX C M_X11_token 0 0 (67, [(0, .ref 42)], [.int s0, .int s1, .ref 42], LAY, S) := by
  have hT := ok_X11_token
  unfold X11_token_42_b67 at hf
  refine aRun_ok hC hT 2 (cf' := (71, [(0, .ref 42)], [], LAY, (aI S 42 15 (s1 + s0)))) (by rfl) ?_
  exact X11_token_42_l71_ok hC hF N (aI S 42 15 (s1 + s0)) hf
def X11_token_42_b38 (N : Nat) (S : aSt) : Option (aSt) := (if (S.1 42 1) ≤ (S.1 42 15) then (X11_token_42_b67 N (0 : Int32) (S.1 42 15) (aI S 42 16 (S.1 42 15))) else (X11_token_42_b67 N (1 : Int32) (S.1 42 15) (aI S 42 16 (S.1 42 15))))
set_option maxHeartbeats 4000000 in
set_option maxRecDepth 100000 in
theorem X11_token_42_b38_ok {C : aC} {N : Nat} (hC : aCx C M_X11_token) {r : aSt} (hF : aFin C none LAY r 0 0) (S : aSt) (hf : X11_token_42_b38 N S = (some r)) : aX C M_X11_token 0 0 (38, [(0, .ref 42)], [], LAY, S) := by
  have hT := ok_X11_token
  unfold X11_token_42_b38 at hf
  refine aRun_ok hC hT 11 (cf' := (59, [(0, .ref 42)], [.int (S.1 42 1), .int (S.1 42 15), .int (S.1 42 15), .ref 42], LAY, (aI S 42 16 (S.1 42 15)))) (by rfl) ?_
  refine aCmp_ge hC hT (tgt := 66) rfl (by decide) (fun hc2 => ?_) (fun hc2 => ?_)
  · have hf := aIfT hf hc2
    refine aRun_ok hC hT 1 (cf' := (67, [(0, .ref 42)], [.int (0 : Int32), .int (S.1 42 15), .ref 42], LAY, (aI S 42 16 (S.1 42 15)))) (by rfl) ?_
    exact X11_token_42_b67_ok hC hF (0 : Int32) (S.1 42 15) (aI S 42 16 (S.1 42 15)) hf
  · have hf := aIfF hf hc2
    refine aRun_ok hC hT 2 (cf' := (67, [(0, .ref 42)], [.int (1 : Int32), .int (S.1 42 15), .ref 42], LAY, (aI S 42 16 (S.1 42 15)))) (by rfl) ?_
    exact X11_token_42_b67_ok hC hF (1 : Int32) (S.1 42 15) (aI S 42 16 (S.1 42 15)) hf
def X11_token_42_b0 (N : Nat) (rec0 : aSt → Option (aSt)) (S : aSt) : Option (aSt) := (if (S.1 42 1) ≤ (S.1 42 15) then (X11_token_42_b38 N S) else (if aIx (S.1 42 15) 200 = true then (if ((S.2.2 43) (S.1 42 15).toNatClampNeg) = (32 : Int32) then (rec0 (aI S 42 15 ((S.1 42 15) + (1 : Int32)))) else (X11_token_42_b38 N S)) else none))
set_option maxHeartbeats 4000000 in
set_option maxRecDepth 100000 in
theorem X11_token_42_b0_ok {C : aC} {N : Nat} {rec0 : aSt → Option (aSt)} (hC : aCx C M_X11_token) {r : aSt} (hF : aFin C none LAY r 0 0) (hrec0 : ∀ (S : aSt), rec0 S = (some r) → aX C M_X11_token 0 0 (0, [(0, .ref 42)], [], LAY, S)) (S : aSt) (hf : X11_token_42_b0 N rec0 S = (some r)) : aX C M_X11_token 0 0 (0, [(0, .ref 42)], [], LAY, S) := by
  have hT := ok_X11_token
  unfold X11_token_42_b0 at hf
  refine aRun_ok hC hT 4 (cf' := (8, [(0, .ref 42)], [.int (S.1 42 1), .int (S.1 42 15)], LAY, S)) (by rfl) ?_
  refine aCmp_ge hC hT (tgt := 38) rfl (by decide) (fun hc17 => ?_) (fun hc17 => ?_)
  · have hf := aIfT hf hc17
    exact X11_token_42_b38_ok hC hF S hf
  · have hf := aIfF hf hc17
    refine aRun_ok hC hT 4 (cf' := (19, [(0, .ref 42)], [.int (S.1 42 15), .ref 43], LAY, S)) (by rfl) ?_
    obtain ⟨hin18, hf⟩ := aGdE hf
    refine aIald hC hT rfl (by decide) (by rfl) hin18 ?_
    refine aRun_ok hC hT 1 (cf' := (22, [(0, .ref 42)], [.int (32 : Int32), .int ((S.2.2 43) (S.1 42 15).toNatClampNeg)], LAY, S)) (by rfl) ?_
    refine aCmp_ne hC hT (tgt := 38) rfl (by decide) (fun hc19 => ?_) (fun hc19 => ?_)
    · have hf := aIfF hf hc19
      exact X11_token_42_b38_ok hC hF S hf
    · have hf := aIfT hf hc19
      refine aRun_ok hC hT 7 (cf' := (0, [(0, .ref 42)], [], LAY, (aI S 42 15 ((S.1 42 15) + (1 : Int32))))) (by rfl) ?_
      exact hrec0 (aI S 42 15 ((S.1 42 15) + (1 : Int32))) hf
def X11_token_42_l0 (N : Nat) : Nat → aSt → Option (aSt)
  | 0 => fun _ => none
  | n + 1 => X11_token_42_b0 N (X11_token_42_l0 N n)
theorem X11_token_42_l0_ok {C : aC} {N : Nat} (hC : aCx C M_X11_token) {r : aSt} (hF : aFin C none LAY r 0 0) : ∀ (n : Nat) (S : aSt), X11_token_42_l0 N n S = (some r) → aX C M_X11_token 0 0 (0, [(0, .ref 42)], [], LAY, S)
  | 0, _,  h => nomatch (show (none : Option (aSt)) = some _ from h)
  | n + 1, S,  h => X11_token_42_b0_ok hC hF (fun S h => X11_token_42_l0_ok hC hF n S h) S h
def X11_token_42 (N : Nat) (S : aSt) : Option (aSt) := (if (S.1 42 1) ≤ (S.1 42 15) then (X11_token_42_b38 N S) else (if aIx (S.1 42 15) 200 = true then (if ((S.2.2 43) (S.1 42 15).toNatClampNeg) = (32 : Int32) then (X11_token_42_l0 N N (aI S 42 15 ((S.1 42 15) + (1 : Int32)))) else (X11_token_42_b38 N S)) else none))
set_option maxHeartbeats 4000000 in
set_option maxRecDepth 100000 in
theorem J_X11_token_42 (l : Launch) (g : aWg) (N : Nat) (S : aSt) {r : aSt} (hf : X11_token_42 N S = (some r)) : aJ l g yX11_token M_X11_token [.ref 42] LAY S none LAY r 0 0 := by
  refine aJ_of (by decide +kernel) rfl (Nat.le_of_ble_eq_true rfl) (fun h => nomatch h) ?_
  intro C hg hl hC hz hF
  subst hg; subst hl
  have hT := ok_X11_token
  unfold X11_token_42 at hf
  show aX C M_X11_token 0 0 (0, [(0, .ref 42)], [], LAY, S)
  refine aRun_ok hC hT 4 (cf' := (8, [(0, .ref 42)], [.int (S.1 42 1), .int (S.1 42 15)], LAY, S)) (by rfl) ?_
  refine aCmp_ge hC hT (tgt := 38) rfl (by decide) (fun hc1 => ?_) (fun hc1 => ?_)
  · have hf := aIfT hf hc1
    exact X11_token_42_b38_ok hC hF S hf
  · have hf := aIfF hf hc1
    refine aRun_ok hC hT 4 (cf' := (19, [(0, .ref 42)], [.int (S.1 42 15), .ref 43], LAY, S)) (by rfl) ?_
    obtain ⟨hin15, hf⟩ := aGdE hf
    refine aIald hC hT rfl (by decide) (by rfl) hin15 ?_
    refine aRun_ok hC hT 1 (cf' := (22, [(0, .ref 42)], [.int (32 : Int32), .int ((S.2.2 43) (S.1 42 15).toNatClampNeg)], LAY, S)) (by rfl) ?_
    refine aCmp_ne hC hT (tgt := 38) rfl (by decide) (fun hc16 => ?_) (fun hc16 => ?_)
    · have hf := aIfF hf hc16
      exact X11_token_42_b38_ok hC hF S hf
    · have hf := aIfT hf hc16
      refine aRun_ok hC hT 7 (cf' := (0, [(0, .ref 42)], [], LAY, (aI S 42 15 ((S.1 42 15) + (1 : Int32))))) (by rfl) ?_
      exact X11_token_42_l0_ok hC hF N (aI S 42 15 ((S.1 42 15) + (1 : Int32))) hf
