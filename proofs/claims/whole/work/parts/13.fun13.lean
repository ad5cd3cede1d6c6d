def X6_set_9 (a1 : Int32) (a2 : Int32) (S : aSt) : aSt := (if a1 < (0 : Int32) then S else (if (150 : Int32) ≤ a1 then S else (aA S 9 (upd (S.2.2 9) a1.toNatClampNeg a2))))
set_option maxHeartbeats 4000000 in
set_option maxRecDepth 100000 in
theorem J_X6_set_9 (l : Launch) (g : aWg) (a1 : Int32) (a2 : Int32) (S : aSt) {r : aSt} (hf : X6_set_9 a1 a2 S = r) : aJ l g yX6_set M_X6_set [.ref 9, .int a1, .int a2] LAY S none LAY r 0 0 := by
  refine aJ_of (by decide +kernel) rfl (Nat.le_of_ble_eq_true rfl) (fun h => nomatch h) ?_
  intro C hg hl hC hz hF
  subst hg; subst hl
  have hT := ok_X6_set
  unfold X6_set_9 at hf
  show aX C M_X6_set 0 0 (0, [(0, .ref 9), (1, .int a1), (2, .int a2)], [], LAY, S)
  refine aRun_ok hC hT 1 (cf' := (1, [(0, .ref 9), (1, .int a1), (2, .int a2)], [.int a1], LAY, S)) (by rfl) ?_
  refine aIf_lt hC hT (tgt := 14) rfl (by decide) (fun hc1 => ?_) (fun hc1 => ?_)
  · have hf := aIfT hf hc1
    subst hf
    exact aRetV hC hT hF rfl rfl
  · have hf := aIfF hf hc1
    refine aRun_ok hC hT 3 (cf' := (7, [(0, .ref 9), (1, .int a1), (2, .int a2)], [.int (150 : Int32), .int a1], LAY, S)) (by rfl) ?_
    refine aCmp_ge hC hT (tgt := 14) rfl (by decide) (fun hc2 => ?_) (fun hc2 => ?_)
    · have hf := aIfT hf hc2
      subst hf
      exact aRetV hC hT hF rfl rfl
    · have hf := aIfF hf hc2
      refine aRun_ok hC hT 3 (cf' := (13, [(0, .ref 9), (1, .int a1), (2, .int a2)], [.int a2, .int a1, .ref 9], LAY, S)) (by rfl) ?_
      refine aIast hC hT rfl (by decide) (by rfl) (aIx_of hc1 hc2 (by decide)) ?_
      subst hf
      exact aRetV hC hT hF rfl rfl
def X2_setPart_8 (a1 : Int32) (a2 : Int32) (a3 : Int32) (S : aSt) : aSt := (aLet (X6_set_9 ((a1 * (5 : Int32)) + a2) a3 S) (fun w1 => w1))
set_option maxHeartbeats 4000000 in
set_option maxRecDepth 100000 in
theorem J_X2_setPart_8 (l : Launch) (g : aWg) (a1 : Int32) (a2 : Int32) (a3 : Int32) (S : aSt) {r : aSt} (hf : X2_setPart_8 a1 a2 a3 S = r) : aJ l g yX2_setPart M_X2_setPart [.ref 8, .int a1, .int a2, .int a3] LAY S none LAY r 0 0 := by
  refine aJ_of (by decide +kernel) rfl (Nat.le_of_ble_eq_true rfl) (fun h => nomatch h) ?_
  intro C hg hl hC hz hF
  subst hg; subst hl
  have hT := ok_X2_setPart
  unfold X2_setPart_8 at hf
  show aX C M_X2_setPart 0 0 (0, [(0, .ref 8), (1, .int a1), (2, .int a2), (3, .int a3)], [], LAY, S)
  refine aRun_ok hC hT 8 (cf' := (10, [(0, .ref 8), (1, .int a1), (2, .int a2), (3, .int a3)], [.int a3, .int ((a1 * (5 : Int32)) + a2), .ref 9], LAY, S)) (by rfl) ?_
  obtain ⟨w1, ew2, hf⟩ := aLetE hf
  refine aCallS (As := [.ref 9, .int ((a1 * (5 : Int32)) + a2), .int a3]) (rest := []) hC hT rfl k_X2_setPart_47.1 _ k_X2_setPart_47.2 (by rfl) (Nat.le_of_ble_eq_true rfl) (by decide) (J_X6_set_9 C.2.2.1 C.1 ((a1 * (5 : Int32)) + a2) a3 S ew2) ?_
  subst hf
  exact aRetV hC hT hF rfl rfl
def X2_add_8_1 (a1 : Int32) (a3 : Int32) (S : aSt) : aSt := (if (S.1 8 0) < (30 : Int32) then (aLet (X2_setPart_8 (S.1 8 0) (0 : Int32) a1 S) (fun w2 => (aLet (X9_number_1 a3 (0 : Int32) w2) (fun w4 => (aLet (X2_setPart_8 (w2.1 8 0) (1 : Int32) w4 w2) (fun w6 => (aLet (X9_number_1 a3 (1 : Int32) w6) (fun w8 => (aLet (X2_setPart_8 (w6.1 8 0) (2 : Int32) w8 w6) (fun w10 => (aLet (X9_number_1 a3 (2 : Int32) w10) (fun w12 => (aLet (X2_setPart_8 (w10.1 8 0) (3 : Int32) w12 w10) (fun w14 => (aLet (X9_number_1 a3 (3 : Int32) w14) (fun w16 => (aLet (X2_setPart_8 (w14.1 8 0) (4 : Int32) w16 w14) (fun w18 => (aI w18 8 0 ((w18.1 8 0) + (1 : Int32))))))))))))))))))))) else S)
set_option maxHeartbeats 4000000 in
set_option maxRecDepth 100000 in
theorem J_X2_add_8_1 (l : Launch) (g : aWg) (a1 : Int32) (a3 : Int32) (S : aSt) {r : aSt} (hf : X2_add_8_1 a1 a3 S = r) : aJ l g yX2_add M_X2_add [.ref 8, .int a1, .ref 1, .int a3] LAY S none LAY r 0 0 := by
  refine aJ_of (by decide +kernel) rfl (Nat.le_of_ble_eq_true rfl) (fun h => nomatch h) ?_
  intro C hg hl hC hz hF
  subst hg; subst hl
  have hT := ok_X2_add
  unfold X2_add_8_1 at hf
  show aX C M_X2_add 0 0 (0, [(0, .ref 8), (1, .int a1), (2, .ref 1), (3, .int a3)], [], LAY, S)
  refine aRun_ok hC hT 3 (cf' := (6, [(0, .ref 8), (1, .int a1), (2, .ref 1), (3, .int a3)], [.int (30 : Int32), .int (S.1 8 0)], LAY, S)) (by rfl) ?_
  refine aCmp_lt hC hT (tgt := 10) rfl (by decide) (fun hc1 => ?_) (fun hc1 => ?_)
  · have hf := aIfT hf hc1
    refine aRun_ok hC hT 5 (cf' := (17, [(0, .ref 8), (1, .int a1), (2, .ref 1), (3, .int a3)], [.int a1, .int (0 : Int32), .int (S.1 8 0), .ref 8], LAY, S)) (by rfl) ?_
    obtain ⟨w2, ew3, hf⟩ := aLetE hf
    refine aCallV (b := 8) (As := [.int (S.1 8 0), .int (0 : Int32), .int a1]) (rest := []) hC hT rfl k_X2_add_68.1 _ _ k_X2_add_68.2 (by decide) (by rfl) (by rfl) (by rfl) (Nat.le_of_ble_eq_true rfl) (by decide) (J_X2_setPart_8 C.2.2.1 C.1 (S.1 8 0) (0 : Int32) a1 S ew3) ?_
    refine aRun_ok hC hT 7 (cf' := (29, [(0, .ref 8), (1, .int a1), (2, .ref 1), (3, .int a3)], [.int (0 : Int32), .int a3, .ref 1, .int (1 : Int32), .int (w2.1 8 0), .ref 8], LAY, w2)) (by rfl) ?_
    obtain ⟨w4, ew5, hf⟩ := aLetE hf
    refine aCallV (b := 1) (As := [.int a3, .int (0 : Int32)]) (rest := [.int (1 : Int32), .int (w2.1 8 0), .ref 8]) hC hT rfl k_X2_add_81.1 _ _ k_X2_add_81.2 (by decide) (by rfl) (by rfl) (by rfl) (Nat.le_of_ble_eq_true rfl) (by decide) (J_X9_number_1 C.2.2.1 C.1 a3 (0 : Int32) w2 ew5) ?_
    obtain ⟨w6, ew7, hf⟩ := aLetE hf
    refine aCallV (b := 8) (As := [.int (w2.1 8 0), .int (1 : Int32), .int w4]) (rest := []) hC hT rfl k_X2_add_68.1 _ _ k_X2_add_68.2 (by decide) (by rfl) (by rfl) (by rfl) (Nat.le_of_ble_eq_true rfl) (by decide) (J_X2_setPart_8 C.2.2.1 C.1 (w2.1 8 0) (1 : Int32) w4 w2 ew7) ?_
    refine aRun_ok hC hT 7 (cf' := (44, [(0, .ref 8), (1, .int a1), (2, .ref 1), (3, .int a3)], [.int (1 : Int32), .int a3, .ref 1, .int (2 : Int32), .int (w6.1 8 0), .ref 8], LAY, w6)) (by rfl) ?_
    obtain ⟨w8, ew9, hf⟩ := aLetE hf
    refine aCallV (b := 1) (As := [.int a3, .int (1 : Int32)]) (rest := [.int (2 : Int32), .int (w6.1 8 0), .ref 8]) hC hT rfl k_X2_add_81.1 _ _ k_X2_add_81.2 (by decide) (by rfl) (by rfl) (by rfl) (Nat.le_of_ble_eq_true rfl) (by decide) (J_X9_number_1 C.2.2.1 C.1 a3 (1 : Int32) w6 ew9) ?_
    obtain ⟨w10, ew11, hf⟩ := aLetE hf
    refine aCallV (b := 8) (As := [.int (w6.1 8 0), .int (2 : Int32), .int w8]) (rest := []) hC hT rfl k_X2_add_68.1 _ _ k_X2_add_68.2 (by decide) (by rfl) (by rfl) (by rfl) (Nat.le_of_ble_eq_true rfl) (by decide) (J_X2_setPart_8 C.2.2.1 C.1 (w6.1 8 0) (2 : Int32) w8 w6 ew11) ?_
    refine aRun_ok hC hT 7 (cf' := (59, [(0, .ref 8), (1, .int a1), (2, .ref 1), (3, .int a3)], [.int (2 : Int32), .int a3, .ref 1, .int (3 : Int32), .int (w10.1 8 0), .ref 8], LAY, w10)) (by rfl) ?_
    obtain ⟨w12, ew13, hf⟩ := aLetE hf
    refine aCallV (b := 1) (As := [.int a3, .int (2 : Int32)]) (rest := [.int (3 : Int32), .int (w10.1 8 0), .ref 8]) hC hT rfl k_X2_add_81.1 _ _ k_X2_add_81.2 (by decide) (by rfl) (by rfl) (by rfl) (Nat.le_of_ble_eq_true rfl) (by decide) (J_X9_number_1 C.2.2.1 C.1 a3 (2 : Int32) w10 ew13) ?_
    obtain ⟨w14, ew15, hf⟩ := aLetE hf
    refine aCallV (b := 8) (As := [.int (w10.1 8 0), .int (3 : Int32), .int w12]) (rest := []) hC hT rfl k_X2_add_68.1 _ _ k_X2_add_68.2 (by decide) (by rfl) (by rfl) (by rfl) (Nat.le_of_ble_eq_true rfl) (by decide) (J_X2_setPart_8 C.2.2.1 C.1 (w10.1 8 0) (3 : Int32) w12 w10 ew15) ?_
    refine aRun_ok hC hT 7 (cf' := (74, [(0, .ref 8), (1, .int a1), (2, .ref 1), (3, .int a3)], [.int (3 : Int32), .int a3, .ref 1, .int (4 : Int32), .int (w14.1 8 0), .ref 8], LAY, w14)) (by rfl) ?_
    obtain ⟨w16, ew17, hf⟩ := aLetE hf
    refine aCallV (b := 1) (As := [.int a3, .int (3 : Int32)]) (rest := [.int (4 : Int32), .int (w14.1 8 0), .ref 8]) hC hT rfl k_X2_add_81.1 _ _ k_X2_add_81.2 (by decide) (by rfl) (by rfl) (by rfl) (Nat.le_of_ble_eq_true rfl) (by decide) (J_X9_number_1 C.2.2.1 C.1 a3 (3 : Int32) w14 ew17) ?_
    obtain ⟨w18, ew19, hf⟩ := aLetE hf
    refine aCallV (b := 8) (As := [.int (w14.1 8 0), .int (4 : Int32), .int w16]) (rest := []) hC hT rfl k_X2_add_68.1 _ _ k_X2_add_68.2 (by decide) (by rfl) (by rfl) (by rfl) (Nat.le_of_ble_eq_true rfl) (by decide) (J_X2_setPart_8 C.2.2.1 C.1 (w14.1 8 0) (4 : Int32) w16 w14 ew19) ?_
    refine aRun_ok hC hT 6 (cf' := (90, [(0, .ref 8), (1, .int a1), (2, .ref 1), (3, .int a3)], [], LAY, (aI w18 8 0 ((w18.1 8 0) + (1 : Int32))))) (by rfl) ?_
    subst hf
    exact aRetV hC hT hF rfl rfl
  · have hf := aIfF hf hc1
    subst hf
    exact aRetV hC hT hF rfl rfl
def X6_set_10 (a1 : Int32) (a2 : Int32) (S : aSt) : aSt := (if a1 < (0 : Int32) then S else (if (20 : Int32) ≤ a1 then S else (aA S 10 (upd (S.2.2 10) a1.toNatClampNeg a2))))
set_option maxHeartbeats 4000000 in
set_option maxRecDepth 100000 in
theorem J_X6_set_10 (l : Launch) (g : aWg) (a1 : Int32) (a2 : Int32) (S : aSt) {r : aSt} (hf : X6_set_10 a1 a2 S = r) : aJ l g yX6_set M_X6_set [.ref 10, .int a1, .int a2] LAY S none LAY r 0 0 := by
  refine aJ_of (by decide +kernel) rfl (Nat.le_of_ble_eq_true rfl) (fun h => nomatch h) ?_
  intro C hg hl hC hz hF
  subst hg; subst hl
  have hT := ok_X6_set
  unfold X6_set_10 at hf
  show aX C M_X6_set 0 0 (0, [(0, .ref 10), (1, .int a1), (2, .int a2)], [], LAY, S)
  refine aRun_ok hC hT 1 (cf' := (1, [(0, .ref 10), (1, .int a1), (2, .int a2)], [.int a1], LAY, S)) (by rfl) ?_
  refine aIf_lt hC hT (tgt := 14) rfl (by decide) (fun hc1 => ?_) (fun hc1 => ?_)
  · have hf := aIfT hf hc1
    subst hf
    exact aRetV hC hT hF rfl rfl
  · have hf := aIfF hf hc1
    refine aRun_ok hC hT 3 (cf' := (7, [(0, .ref 10), (1, .int a1), (2, .int a2)], [.int (20 : Int32), .int a1], LAY, S)) (by rfl) ?_
    refine aCmp_ge hC hT (tgt := 14) rfl (by decide) (fun hc2 => ?_) (fun hc2 => ?_)
    · have hf := aIfT hf hc2
      subst hf
      exact aRetV hC hT hF rfl rfl
    · have hf := aIfF hf hc2
      refine aRun_ok hC hT 3 (cf' := (13, [(0, .ref 10), (1, .int a1), (2, .int a2)], [.int a2, .int a1, .ref 10], LAY, S)) (by rfl) ?_
      refine aIast hC hT rfl (by decide) (by rfl) (aIx_of hc1 hc2 (by decide)) ?_
      subst hf
      exact aRetV hC hT hF rfl rfl
def X2_setOdds_8 (a1 : Int32) (a2 : Int32) (a3 : Int32) (S : aSt) : aSt := (aLet (X6_set_10 ((a1 * (5 : Int32)) + a2) a3 S) (fun w1 => (aI w1 8 4 ((w1.1 8 4) + (1 : Int32)))))
set_option maxHeartbeats 4000000 in
set_option maxRecDepth 100000 in
theorem J_X2_setOdds_8 (l : Launch) (g : aWg) (a1 : Int32) (a2 : Int32) (a3 : Int32) (S : aSt) {r : aSt} (hf : X2_setOdds_8 a1 a2 a3 S = r) : aJ l g yX2_setOdds M_X2_setOdds [.ref 8, .int a1, .int a2, .int a3] LAY S none LAY r 0 0 := by
  refine aJ_of (by decide +kernel) rfl (Nat.le_of_ble_eq_true rfl) (fun h => nomatch h) ?_
  intro C hg hl hC hz hF
  subst hg; subst hl
  have hT := ok_X2_setOdds
  unfold X2_setOdds_8 at hf
  show aX C M_X2_setOdds 0 0 (0, [(0, .ref 8), (1, .int a1), (2, .int a2), (3, .int a3)], [], LAY, S)
  refine aRun_ok hC hT 8 (cf' := (10, [(0, .ref 8), (1, .int a1), (2, .int a2), (3, .int a3)], [.int a3, .int ((a1 * (5 : Int32)) + a2), .ref 10], LAY, S)) (by rfl) ?_
  obtain ⟨w1, ew2, hf⟩ := aLetE hf
  refine aCallS (As := [.ref 10, .int ((a1 * (5 : Int32)) + a2), .int a3]) (rest := []) hC hT rfl k_X2_setOdds_47.1 _ k_X2_setOdds_47.2 (by rfl) (Nat.le_of_ble_eq_true rfl) (by decide) (J_X6_set_10 C.2.2.1 C.1 ((a1 * (5 : Int32)) + a2) a3 S ew2) ?_
  refine aRun_ok hC hT 6 (cf' := (23, [(0, .ref 8), (1, .int a1), (2, .int a2), (3, .int a3)], [], LAY, (aI w1 8 4 ((w1.1 8 4) + (1 : Int32))))) (by rfl) ?_
  subst hf
  exact aRetV hC hT hF rfl rfl
def X6_set_11 (a1 : Int32) (a2 : Int32) (S : aSt) : aSt := (if a1 < (0 : Int32) then S else (if (100 : Int32) ≤ a1 then S else (aA S 11 (upd (S.2.2 11) a1.toNatClampNeg a2))))
set_option maxHeartbeats 4000000 in
set_option maxRecDepth 100000 in
theorem J_X6_set_11 (l : Launch) (g : aWg) (a1 : Int32) (a2 : Int32) (S : aSt) {r : aSt} (hf : X6_set_11 a1 a2 S = r) : aJ l g yX6_set M_X6_set [.ref 11, .int a1, .int a2] LAY S none LAY r 0 0 := by
  refine aJ_of (by decide +kernel) rfl (Nat.le_of_ble_eq_true rfl) (fun h => nomatch h) ?_
  intro C hg hl hC hz hF
  subst hg; subst hl
  have hT := ok_X6_set
  unfold X6_set_11 at hf
  show aX C M_X6_set 0 0 (0, [(0, .ref 11), (1, .int a1), (2, .int a2)], [], LAY, S)
  refine aRun_ok hC hT 1 (cf' := (1, [(0, .ref 11), (1, .int a1), (2, .int a2)], [.int a1], LAY, S)) (by rfl) ?_
  refine aIf_lt hC hT (tgt := 14) rfl (by decide) (fun hc1 => ?_) (fun hc1 => ?_)
  · have hf := aIfT hf hc1
    subst hf
    exact aRetV hC hT hF rfl rfl
  · have hf := aIfF hf hc1
    refine aRun_ok hC hT 3 (cf' := (7, [(0, .ref 11), (1, .int a1), (2, .int a2)], [.int (100 : Int32), .int a1], LAY, S)) (by rfl) ?_
    refine aCmp_ge hC hT (tgt := 14) rfl (by decide) (fun hc2 => ?_) (fun hc2 => ?_)
    · have hf := aIfT hf hc2
      subst hf
      exact aRetV hC hT hF rfl rfl
    · have hf := aIfF hf hc2
      refine aRun_ok hC hT 3 (cf' := (13, [(0, .ref 11), (1, .int a1), (2, .int a2)], [.int a2, .int a1, .ref 11], LAY, S)) (by rfl) ?_
      refine aIast hC hT rfl (by decide) (by rfl) (aIx_of hc1 hc2 (by decide)) ?_
      subst hf
      exact aRetV hC hT hF rfl rfl
def X6_set_12 (a1 : Int32) (a2 : Int32) (S : aSt) : aSt := (if a1 < (0 : Int32) then S else (if (6 : Int32) ≤ a1 then S else (aA S 12 (upd (S.2.2 12) a1.toNatClampNeg a2))))
set_option maxHeartbeats 4000000 in
set_option maxRecDepth 100000 in
theorem J_X6_set_12 (l : Launch) (g : aWg) (a1 : Int32) (a2 : Int32) (S : aSt) {r : aSt} (hf : X6_set_12 a1 a2 S = r) : aJ l g yX6_set M_X6_set [.ref 12, .int a1, .int a2] LAY S none LAY r 0 0 := by
  refine aJ_of (by decide +kernel) rfl (Nat.le_of_ble_eq_true rfl) (fun h => nomatch h) ?_
  intro C hg hl hC hz hF
  subst hg; subst hl
  have hT := ok_X6_set
  unfold X6_set_12 at hf
  show aX C M_X6_set 0 0 (0, [(0, .ref 12), (1, .int a1), (2, .int a2)], [], LAY, S)
  refine aRun_ok hC hT 1 (cf' := (1, [(0, .ref 12), (1, .int a1), (2, .int a2)], [.int a1], LAY, S)) (by rfl) ?_
  refine aIf_lt hC hT (tgt := 14) rfl (by decide) (fun hc1 => ?_) (fun hc1 => ?_)
  · have hf := aIfT hf hc1
    subst hf
    exact aRetV hC hT hF rfl rfl
  · have hf := aIfF hf hc1
    refine aRun_ok hC hT 3 (cf' := (7, [(0, .ref 12), (1, .int a1), (2, .int a2)], [.int (6 : Int32), .int a1], LAY, S)) (by rfl) ?_
    refine aCmp_ge hC hT (tgt := 14) rfl (by decide) (fun hc2 => ?_) (fun hc2 => ?_)
    · have hf := aIfT hf hc2
      subst hf
      exact aRetV hC hT hF rfl rfl
    · have hf := aIfF hf hc2
      refine aRun_ok hC hT 3 (cf' := (13, [(0, .ref 12), (1, .int a1), (2, .int a2)], [.int a2, .int a1, .ref 12], LAY, S)) (by rfl) ?_
      refine aIast hC hT rfl (by decide) (by rfl) (aIx_of hc1 hc2 (by decide)) ?_
      subst hf
      exact aRetV hC hT hF rfl rfl
def X2_setDue_8_b48 (N : Nat) (s0 : Int32) (s1 : Int32) (S : aSt) : Option (aSt) := (aLet (X6_set_12 s1 s0 S) (fun w7 => some (w7)))
set_option maxHeartbeats 4000000 in
set_option maxRecDepth 100000 in
theorem X2_setDue_8_b48_ok {C : aC} {N : Nat} (hC : aCx C M_X2_setDue) {r : aSt} (hF : aFin C none LAY r 0 0) (s0 : Int32) (s1 : Int32) (S : aSt) (hf : X2_setDue_8_b48 N s0 s1 S = (some r)) : aX C M_X2_setDue 0 0 (48, [], [.int s0, .int s1, .ref 12], LAY, S) := by
  have hT := ok_X2_setDue
  unfold X2_setDue_8_b48 at hf
  obtain ⟨w7, ew8, hf⟩ := aLetE hf
  refine aCallS (As := [.ref 12, .int s1, .int s0]) (rest := []) hC hT rfl k_X2_setDue_47.1 _ k_X2_setDue_47.2 (by rfl) (Nat.le_of_ble_eq_true rfl) (by decide) (J_X6_set_12 C.2.2.1 C.1 s1 s0 S ew8) ?_
  have e9 := Option.some.inj hf; subst e9
  exact aRetV hC hT hF rfl rfl
def X2_setDue_8_b30 (N : Nat) (v1 : Int32) (v2 : Int32) (v3 : Int32) (s0 : Int32) (s1 : Int32) (S : aSt) : Option (aSt) := (if aIx s1 6 = true then (if s0 = 0 ∨ s0 = 1 then (if v2 = (11 : Int32) then (X2_setDue_8_b48 N (-v3) v1 (aA S 13 (upd (S.2.2 13) s1.toNatClampNeg s0))) else (X2_setDue_8_b48 N v3 v1 (aA S 13 (upd (S.2.2 13) s1.toNatClampNeg s0)))) else none) else none)
set_option maxHeartbeats 4000000 in
set_option maxRecDepth 100000 in
theorem X2_setDue_8_b30_ok {C : aC} {N : Nat} (hC : aCx C M_X2_setDue) {r : aSt} (hF : aFin C none LAY r 0 0) (v1 : Int32) (v2 : Int32) (v3 : Int32) (s0 : Int32) (s1 : Int32) (S : aSt) (hf : X2_setDue_8_b30 N v1 v2 v3 s0 s1 S = (some r)) : aX C M_X2_setDue 0 0 (30, [(0, .ref 8), (1, .int v1), (2, .int v2), (3, .int v3)], [.int s0, .int s1, .ref 13], LAY, S) := by
  have hT := ok_X2_setDue
  unfold X2_setDue_8_b30 at hf
  obtain ⟨hin4, hf⟩ := aGdE hf
  obtain ⟨hb5, hf⟩ := aGdE hf
  refine aZast hC hT rfl (by decide) (by rfl) hin4 hb5 ?_
  refine aRun_ok hC hT 5 (cf' := (39, [(0, .ref 8), (1, .int v1), (2, .int v2), (3, .int v3)], [.int (11 : Int32), .int v2, .int v1, .ref 12], LAY, (aA S 13 (upd (S.2.2 13) s1.toNatClampNeg s0)))) (by rfl) ?_
  refine aCmp_ne hC hT (tgt := 47) rfl (by decide) (fun hc6 => ?_) (fun hc6 => ?_)
  · have hf := aIfF hf hc6
    refine aRun_ok hC hT 1 (cf' := (48, [(0, .ref 8), (1, .int v1), (2, .int v2), (3, .int v3)], [.int v3, .int v1, .ref 12], LAY, (aA S 13 (upd (S.2.2 13) s1.toNatClampNeg s0)))) (by rfl) ?_
    refine aLocs [] (lv' := []) rfl ?_
    exact X2_setDue_8_b48_ok hC hF v3 v1 (aA S 13 (upd (S.2.2 13) s1.toNatClampNeg s0)) hf
  · have hf := aIfT hf hc6
    refine aRun_ok hC hT 3 (cf' := (48, [(0, .ref 8), (1, .int v1), (2, .int v2), (3, .int v3)], [.int (-v3), .int v1, .ref 12], LAY, (aA S 13 (upd (S.2.2 13) s1.toNatClampNeg s0)))) (by rfl) ?_
    refine aLocs [] (lv' := []) rfl ?_
    exact X2_setDue_8_b48_ok hC hF (-v3) v1 (aA S 13 (upd (S.2.2 13) s1.toNatClampNeg s0)) hf
def X2_setDue_8 (N : Nat) (a1 : Int32) (a2 : Int32) (a3 : Int32) (S : aSt) : Option (aSt) := (if a1 < (0 : Int32) then some (S) else (if a1 < (6 : Int32) then (if a2 = (18 : Int32) then (X2_setDue_8_b30 N a1 a2 a3 (0 : Int32) a1 S) else (X2_setDue_8_b30 N a1 a2 a3 (1 : Int32) a1 S)) else some (S)))
set_option maxHeartbeats 4000000 in
set_option maxRecDepth 100000 in
theorem J_X2_setDue_8 (l : Launch) (g : aWg) (N : Nat) (a1 : Int32) (a2 : Int32) (a3 : Int32) (S : aSt) {r : aSt} (hf : X2_setDue_8 N a1 a2 a3 S = (some r)) : aJ l g yX2_setDue M_X2_setDue [.ref 8, .int a1, .int a2, .int a3] LAY S none LAY r 0 0 := by
  refine aJ_of (by decide +kernel) rfl (Nat.le_of_ble_eq_true rfl) (fun h => nomatch h) ?_
  intro C hg hl hC hz hF
  subst hg; subst hl
  have hT := ok_X2_setDue
  unfold X2_setDue_8 at hf
  show aX C M_X2_setDue 0 0 (0, [(0, .ref 8), (1, .int a1), (2, .int a2), (3, .int a3)], [], LAY, S)
  refine aRun_ok hC hT 1 (cf' := (1, [(0, .ref 8), (1, .int a1), (2, .int a2), (3, .int a3)], [.int a1], LAY, S)) (by rfl) ?_
  refine aIf_lt hC hT (tgt := 13) rfl (by decide) (fun hc1 => ?_) (fun hc1 => ?_)
  · have hf := aIfT hf hc1
    have e9 := Option.some.inj hf; subst e9
    exact aRetV hC hT hF rfl rfl
  · have hf := aIfF hf hc1
    refine aRun_ok hC hT 4 (cf' := (10, [(0, .ref 8), (1, .int a1), (2, .int a2), (3, .int a3)], [.int (6 : Int32), .int a1], LAY, S)) (by rfl) ?_
    refine aCmp_lt hC hT (tgt := 14) rfl (by decide) (fun hc2 => ?_) (fun hc2 => ?_)
    · have hf := aIfT hf hc2
      refine aRun_ok hC hT 5 (cf' := (22, [(0, .ref 8), (1, .int a1), (2, .int a2), (3, .int a3)], [.int (18 : Int32), .int a2, .int a1, .ref 13], LAY, S)) (by rfl) ?_
      refine aCmp_eq hC hT (tgt := 29) rfl (by decide) (fun hc3 => ?_) (fun hc3 => ?_)
      · have hf := aIfT hf hc3
        refine aRun_ok hC hT 1 (cf' := (30, [(0, .ref 8), (1, .int a1), (2, .int a2), (3, .int a3)], [.int (0 : Int32), .int a1, .ref 13], LAY, S)) (by rfl) ?_
        exact X2_setDue_8_b30_ok hC hF a1 a2 a3 (0 : Int32) a1 S hf
      · have hf := aIfF hf hc3
        refine aRun_ok hC hT 2 (cf' := (30, [(0, .ref 8), (1, .int a1), (2, .int a2), (3, .int a3)], [.int (1 : Int32), .int a1, .ref 13], LAY, S)) (by rfl) ?_
        exact X2_setDue_8_b30_ok hC hF a1 a2 a3 (1 : Int32) a1 S hf
    · have hf := aIfF hf hc2
      have e9 := Option.some.inj hf; subst e9
      exact aRetV hC hT hF rfl rfl
def X2_takeLine_8_1 (N : Nat) (a2 : Int32) (S : aSt) : Option (aSt) := (aLet (X9_number_1 a2 (0 : Int32) S) (fun w1 => (aLet (X9_number_1 a2 (1 : Int32) S) (fun w3 => (aLet (X9_word_1 a2 S) (fun w5 => (if w5.toInt < 10 ∨ 17 < w5.toInt then some (S) else (if w5 = (10 : Int32) then (aLet (X2_add_8_1 (0 : Int32) a2 S) (fun w9 => some (w9))) else (if w5 = (11 : Int32) then (aLet (X2_add_8_1 (1 : Int32) a2 S) (fun w12 => some (w12))) else (if w5 = (12 : Int32) then (aLet (X9_number_1 a2 (2 : Int32) S) (fun w15 => (aLet (X2_setOdds_8 w1 w3 w15 S) (fun w17 => some (w17))))) else (if w5 = (13 : Int32) then (aLet (X9_number_1 a2 (2 : Int32) S) (fun w20 => (aLet (X6_set_11 ((w1 * (10 : Int32)) + w3) w20 S) (fun w22 => some (w22))))) else (if w5 = (14 : Int32) then some ((aI S 8 1 w1)) else (if w5 = (15 : Int32) then some ((aI S 8 2 w1)) else (if w5 = (16 : Int32) then some ((aI S 8 3 w1)) else (if w5 = (17 : Int32) then (aLet (X9_number_1 a2 (2 : Int32) S) (fun w28 => (Option.bind (X2_setDue_8 N w1 w3 w28 S) (fun w30 => some (w30))))) else none)))))))))))))))
set_option maxHeartbeats 4000000 in
set_option maxRecDepth 100000 in
theorem J_X2_takeLine_8_1 (l : Launch) (g : aWg) (N : Nat) (a2 : Int32) (S : aSt) {r : aSt} (hf : X2_takeLine_8_1 N a2 S = (some r)) : aJ l g yX2_takeLine M_X2_takeLine [.ref 8, .ref 1, .int a2] LAY S none LAY r 0 0 := by
  refine aJ_of (by decide +kernel) rfl (Nat.le_of_ble_eq_true rfl) (fun h => nomatch h) ?_
  intro C hg hl hC hz hF
  subst hg; subst hl
  have hT := ok_X2_takeLine
  unfold X2_takeLine_8_1 at hf
  show aX C M_X2_takeLine 0 0 (0, [(0, .ref 8), (1, .ref 1), (2, .int a2)], [], LAY, S)
  refine aRun_ok hC hT 3 (cf' := (3, [(0, .ref 8), (1, .ref 1), (2, .int a2)], [.int (0 : Int32), .int a2, .ref 1], LAY, S)) (by rfl) ?_
  obtain ⟨w1, ew2, hf⟩ := aLetE hf
  refine aCallV (b := 1) (As := [.int a2, .int (0 : Int32)]) (rest := []) hC hT rfl k_X2_takeLine_81.1 _ _ k_X2_takeLine_81.2 (by decide) (by rfl) (by rfl) (by rfl) (Nat.le_of_ble_eq_true rfl) (by decide) (J_X9_number_1 C.2.2.1 C.1 a2 (0 : Int32) S ew2) ?_
  refine aRun_ok hC hT 4 (cf' := (10, [(3, .int w1), (0, .ref 8), (1, .ref 1), (2, .int a2)], [.int (1 : Int32), .int a2, .ref 1], LAY, S)) (by rfl) ?_
  obtain ⟨w3, ew4, hf⟩ := aLetE hf
  refine aCallV (b := 1) (As := [.int a2, .int (1 : Int32)]) (rest := []) hC hT rfl k_X2_takeLine_81.1 _ _ k_X2_takeLine_81.2 (by decide) (by rfl) (by rfl) (by rfl) (Nat.le_of_ble_eq_true rfl) (by decide) (J_X9_number_1 C.2.2.1 C.1 a2 (1 : Int32) S ew4) ?_
  refine aRun_ok hC hT 3 (cf' := (17, [(4, .int w3), (3, .int w1), (0, .ref 8), (1, .ref 1), (2, .int a2)], [.int a2, .ref 1], LAY, S)) (by rfl) ?_
  obtain ⟨w5, ew6, hf⟩ := aLetE hf
  refine aCallV (b := 1) (As := [.int a2]) (rest := []) hC hT rfl k_X2_takeLine_84.1 _ _ k_X2_takeLine_84.2 (by decide) (by rfl) (by rfl) (by rfl) (Nat.le_of_ble_eq_true rfl) (by decide) (J_X9_word_1 C.2.2.1 C.1 a2 S ew6) ?_
  rcases aTswE hf with ⟨hc7, hf⟩ | ⟨hc7, hf⟩
  · refine aTswD hC hT (tgt := 167) rfl hc7 (by decide) ?_
    have e9 := Option.some.inj hf; subst e9
    exact aRetV hC hT hF rfl rfl
  · rcases aIfE hf with ⟨hc8, hf⟩ | ⟨-, hf⟩
    · refine aTsw hC hT (off := 48) (tgt := 68) rfl (10 : Int32) hc8 (by decide) (by decide) (by rfl) (by decide) ?_
      refine aRun_ok hC hT 4 (cf' := (72, [(4, .int w3), (3, .int w1), (0, .ref 8), (1, .ref 1), (2, .int a2)], [.int a2, .ref 1, .int (0 : Int32), .ref 8], LAY, S)) (by rfl) ?_
      obtain ⟨w9, ew10, hf⟩ := aLetE hf
      refine aCallV (b := 8) (As := [.int (0 : Int32), .ref 1, .int a2]) (rest := []) hC hT rfl k_X2_takeLine_87.1 _ _ k_X2_takeLine_87.2 (by decide) (by rfl) (by rfl) (by rfl) (Nat.le_of_ble_eq_true rfl) (by decide) (J_X2_add_8_1 C.2.2.1 C.1 (0 : Int32) a2 S ew10) ?_
      refine aRun_ok hC hT 1 (cf' := (167, [(4, .int w3), (3, .int w1), (0, .ref 8), (1, .ref 1), (2, .int a2)], [], LAY, w9)) (by rfl) ?_
      have e9 := Option.some.inj hf; subst e9
      exact aRetV hC hT hF rfl rfl
    · rcases aIfE hf with ⟨hc11, hf⟩ | ⟨-, hf⟩
      · refine aTsw hC hT (off := 58) (tgt := 78) rfl (11 : Int32) hc11 (by decide) (by decide) (by rfl) (by decide) ?_
        refine aRun_ok hC hT 4 (cf' := (82, [(4, .int w3), (3, .int w1), (0, .ref 8), (1, .ref 1), (2, .int a2)], [.int a2, .ref 1, .int (1 : Int32), .ref 8], LAY, S)) (by rfl) ?_
        obtain ⟨w12, ew13, hf⟩ := aLetE hf
        refine aCallV (b := 8) (As := [.int (1 : Int32), .ref 1, .int a2]) (rest := []) hC hT rfl k_X2_takeLine_87.1 _ _ k_X2_takeLine_87.2 (by decide) (by rfl) (by rfl) (by rfl) (Nat.le_of_ble_eq_true rfl) (by decide) (J_X2_add_8_1 C.2.2.1 C.1 (1 : Int32) a2 S ew13) ?_
        refine aRun_ok hC hT 1 (cf' := (167, [(4, .int w3), (3, .int w1), (0, .ref 8), (1, .ref 1), (2, .int a2)], [], LAY, w12)) (by rfl) ?_
        have e9 := Option.some.inj hf; subst e9
        exact aRetV hC hT hF rfl rfl
      · rcases aIfE hf with ⟨hc14, hf⟩ | ⟨-, hf⟩
        · refine aTsw hC hT (off := 68) (tgt := 88) rfl (12 : Int32) hc14 (by decide) (by decide) (by rfl) (by decide) ?_
          refine aRun_ok hC hT 6 (cf' := (95, [(4, .int w3), (3, .int w1), (0, .ref 8), (1, .ref 1), (2, .int a2)], [.int (2 : Int32), .int a2, .ref 1, .int w3, .int w1, .ref 8], LAY, S)) (by rfl) ?_
          obtain ⟨w15, ew16, hf⟩ := aLetE hf
          refine aCallV (b := 1) (As := [.int a2, .int (2 : Int32)]) (rest := [.int w3, .int w1, .ref 8]) hC hT rfl k_X2_takeLine_81.1 _ _ k_X2_takeLine_81.2 (by decide) (by rfl) (by rfl) (by rfl) (Nat.le_of_ble_eq_true rfl) (by decide) (J_X9_number_1 C.2.2.1 C.1 a2 (2 : Int32) S ew16) ?_
          obtain ⟨w17, ew18, hf⟩ := aLetE hf
          refine aCallV (b := 8) (As := [.int w1, .int w3, .int w15]) (rest := []) hC hT rfl k_X2_takeLine_91.1 _ _ k_X2_takeLine_91.2 (by decide) (by rfl) (by rfl) (by rfl) (Nat.le_of_ble_eq_true rfl) (by decide) (J_X2_setOdds_8 C.2.2.1 C.1 w1 w3 w15 S ew18) ?_
          refine aRun_ok hC hT 1 (cf' := (167, [(4, .int w3), (3, .int w1), (0, .ref 8), (1, .ref 1), (2, .int a2)], [], LAY, w17)) (by rfl) ?_
          have e9 := Option.some.inj hf; subst e9
          exact aRetV hC hT hF rfl rfl
        · rcases aIfE hf with ⟨hc19, hf⟩ | ⟨-, hf⟩
          · refine aTsw hC hT (off := 84) (tgt := 104) rfl (13 : Int32) hc19 (by decide) (by decide) (by rfl) (by decide) ?_
            refine aRun_ok hC hT 10 (cf' := (118, [(4, .int w3), (3, .int w1), (0, .ref 8), (1, .ref 1), (2, .int a2)], [.int (2 : Int32), .int a2, .ref 1, .int ((w1 * (10 : Int32)) + w3), .ref 11], LAY, S)) (by rfl) ?_
            obtain ⟨w20, ew21, hf⟩ := aLetE hf
            refine aCallV (b := 1) (As := [.int a2, .int (2 : Int32)]) (rest := [.int ((w1 * (10 : Int32)) + w3), .ref 11]) hC hT rfl k_X2_takeLine_81.1 _ _ k_X2_takeLine_81.2 (by decide) (by rfl) (by rfl) (by rfl) (Nat.le_of_ble_eq_true rfl) (by decide) (J_X9_number_1 C.2.2.1 C.1 a2 (2 : Int32) S ew21) ?_
            obtain ⟨w22, ew23, hf⟩ := aLetE hf
            refine aCallS (As := [.ref 11, .int ((w1 * (10 : Int32)) + w3), .int w20]) (rest := []) hC hT rfl k_X2_takeLine_47.1 _ k_X2_takeLine_47.2 (by rfl) (Nat.le_of_ble_eq_true rfl) (by decide) (J_X6_set_11 C.2.2.1 C.1 ((w1 * (10 : Int32)) + w3) w20 S ew23) ?_
            refine aRun_ok hC hT 1 (cf' := (167, [(4, .int w3), (3, .int w1), (0, .ref 8), (1, .ref 1), (2, .int a2)], [], LAY, w22)) (by rfl) ?_
            have e9 := Option.some.inj hf; subst e9
            exact aRetV hC hT hF rfl rfl
          · rcases aIfE hf with ⟨hc24, hf⟩ | ⟨-, hf⟩
            · refine aTsw hC hT (off := 107) (tgt := 127) rfl (14 : Int32) hc24 (by decide) (by decide) (by rfl) (by decide) ?_
              refine aRun_ok hC hT 4 (cf' := (167, [(4, .int w3), (3, .int w1), (0, .ref 8), (1, .ref 1), (2, .int a2)], [], LAY, (aI S 8 1 w1))) (by rfl) ?_
              have e9 := Option.some.inj hf; subst e9
              exact aRetV hC hT hF rfl rfl
            · rcases aIfE hf with ⟨hc25, hf⟩ | ⟨-, hf⟩
              · refine aTsw hC hT (off := 115) (tgt := 135) rfl (15 : Int32) hc25 (by decide) (by decide) (by rfl) (by decide) ?_
                refine aRun_ok hC hT 4 (cf' := (167, [(4, .int w3), (3, .int w1), (0, .ref 8), (1, .ref 1), (2, .int a2)], [], LAY, (aI S 8 2 w1))) (by rfl) ?_
                have e9 := Option.some.inj hf; subst e9
                exact aRetV hC hT hF rfl rfl
              · rcases aIfE hf with ⟨hc26, hf⟩ | ⟨-, hf⟩
                · refine aTsw hC hT (off := 123) (tgt := 143) rfl (16 : Int32) hc26 (by decide) (by decide) (by rfl) (by decide) ?_
                  refine aRun_ok hC hT 4 (cf' := (167, [(4, .int w3), (3, .int w1), (0, .ref 8), (1, .ref 1), (2, .int a2)], [], LAY, (aI S 8 3 w1))) (by rfl) ?_
                  have e9 := Option.some.inj hf; subst e9
                  exact aRetV hC hT hF rfl rfl
                · rcases aIfE hf with ⟨hc27, hf⟩ | ⟨-, hf⟩
                  · refine aTsw hC hT (off := 131) (tgt := 151) rfl (17 : Int32) hc27 (by decide) (by decide) (by rfl) (by decide) ?_
                    refine aRun_ok hC hT 6 (cf' := (158, [(4, .int w3), (3, .int w1), (0, .ref 8), (1, .ref 1), (2, .int a2)], [.int (2 : Int32), .int a2, .ref 1, .int w3, .int w1, .ref 8], LAY, S)) (by rfl) ?_
                    obtain ⟨w28, ew29, hf⟩ := aLetE hf
                    refine aCallV (b := 1) (As := [.int a2, .int (2 : Int32)]) (rest := [.int w3, .int w1, .ref 8]) hC hT rfl k_X2_takeLine_81.1 _ _ k_X2_takeLine_81.2 (by decide) (by rfl) (by rfl) (by rfl) (Nat.le_of_ble_eq_true rfl) (by decide) (J_X9_number_1 C.2.2.1 C.1 a2 (2 : Int32) S ew29) ?_
                    obtain ⟨w30, ew31, hf⟩ := aBnE hf
                    refine aCallV (b := 8) (As := [.int w1, .int w3, .int w28]) (rest := []) hC hT rfl k_X2_takeLine_94.1 _ _ k_X2_takeLine_94.2 (by decide) (by rfl) (by rfl) (by rfl) (Nat.le_of_ble_eq_true rfl) (by decide) (J_X2_setDue_8 C.2.2.1 C.1 N w1 w3 w28 S ew31) ?_
                    refine aRun_ok hC hT 1 (cf' := (167, [(4, .int w3), (3, .int w1), (0, .ref 8), (1, .ref 1), (2, .int a2)], [], LAY, w30)) (by rfl) ?_
                    have e9 := Option.some.inj hf; subst e9
                    exact aRetV hC hT hF rfl rfl
                  · cases hf
def X2_take_8_1_b22 (N : Nat) (S : aSt) : Option (aSt) := some ((aI S 8 4 ((S.1 8 4) + (1 : Int32))))
set_option maxHeartbeats 4000000 in
set_option maxRecDepth 100000 in
theorem X2_take_8_1_b22_ok {C : aC} {N : Nat} (hC : aCx C M_X2_take) {r : aSt} (hF : aFin C none LAY r 0 0) (S : aSt) (hf : X2_take_8_1_b22 N S = (some r)) : aX C M_X2_take 0 0 (22, [(0, .ref 8)], [], LAY, S) := by
  have hT := ok_X2_take
  unfold X2_take_8_1_b22 at hf
  refine aRun_ok hC hT 6 (cf' := (32, [(0, .ref 8)], [], LAY, (aI S 8 4 ((S.1 8 4) + (1 : Int32))))) (by rfl) ?_
  have e9 := Option.some.inj hf; subst e9
  exact aRetV hC hT hF rfl rfl
def X2_take_8_1_b2 (N : Nat) (rec2 : Int32 → aSt → Option (aSt)) (v2 : Int32) (S : aSt) : Option (aSt) := (if (S.1 1 1) ≤ v2 then (X2_take_8_1_b22 N S) else (Option.bind (X2_takeLine_8_1 N v2 S) (fun w2 => (rec2 (v2 + (1 : Int32)) w2))))
set_option maxHeartbeats 4000000 in
set_option maxRecDepth 100000 in
theorem X2_take_8_1_b2_ok {C : aC} {N : Nat} {rec2 : Int32 → aSt → Option (aSt)} (hC : aCx C M_X2_take) {r : aSt} (hF : aFin C none LAY r 0 0) (hrec2 : ∀ (v2 : Int32) (S : aSt), rec2 v2 S = (some r) → aX C M_X2_take 0 0 (2, [(0, .ref 8), (1, .ref 1), (2, .int v2)], [], LAY, S)) (v2 : Int32) (S : aSt) (hf : X2_take_8_1_b2 N rec2 v2 S = (some r)) : aX C M_X2_take 0 0 (2, [(0, .ref 8), (1, .ref 1), (2, .int v2)], [], LAY, S) := by
  have hT := ok_X2_take
  unfold X2_take_8_1_b2 at hf
  refine aRun_ok hC hT 3 (cf' := (7, [(0, .ref 8), (1, .ref 1), (2, .int v2)], [.int (S.1 1 1), .int v2], LAY, S)) (by rfl) ?_
  refine aCmp_ge hC hT (tgt := 22) rfl (by decide) (fun hc1 => ?_) (fun hc1 => ?_)
  · have hf := aIfT hf hc1
    refine aLocs [0] (lv' := [(0, .ref 8)]) rfl ?_
    exact X2_take_8_1_b22_ok hC hF S hf
  · have hf := aIfF hf hc1
    refine aRun_ok hC hT 3 (cf' := (13, [(0, .ref 8), (1, .ref 1), (2, .int v2)], [.int v2, .ref 1, .ref 8], LAY, S)) (by rfl) ?_
    obtain ⟨w2, ew3, hf⟩ := aBnE hf
    refine aCallV (b := 8) (As := [.ref 1, .int v2]) (rest := []) hC hT rfl k_X2_take_77.1 _ _ k_X2_take_77.2 (by decide) (by rfl) (by rfl) (by rfl) (Nat.le_of_ble_eq_true rfl) (by decide) (J_X2_takeLine_8_1 C.2.2.1 C.1 N v2 S ew3) ?_
    refine aRun_ok hC hT 2 (cf' := (2, [(2, .int (v2 + (1 : Int32))), (0, .ref 8), (1, .ref 1)], [], LAY, w2)) (by rfl) ?_
    refine aLocs [1, 2, 0] (lv' := [(0, .ref 8), (1, .ref 1), (2, .int (v2 + (1 : Int32)))]) rfl ?_
    exact hrec2 (v2 + (1 : Int32)) w2 hf
def X2_take_8_1_l2 (N : Nat) : Nat → Int32 → aSt → Option (aSt)
  | 0 => fun _ _ => none
  | n + 1 => X2_take_8_1_b2 N (X2_take_8_1_l2 N n)
theorem X2_take_8_1_l2_ok {C : aC} {N : Nat} (hC : aCx C M_X2_take) {r : aSt} (hF : aFin C none LAY r 0 0) : ∀ (n : Nat) (v2 : Int32) (S : aSt), X2_take_8_1_l2 N n v2 S = (some r) → aX C M_X2_take 0 0 (2, [(0, .ref 8), (1, .ref 1), (2, .int v2)], [], LAY, S)
  | 0, _, _,  h => nomatch (show (none : Option (aSt)) = some _ from h)
  | n + 1, v2, S,  h => X2_take_8_1_b2_ok hC hF (fun v2 S h => X2_take_8_1_l2_ok hC hF n v2 S h) v2 S h
def X2_take_8_1 (N : Nat) (S : aSt) : Option (aSt) := (X2_take_8_1_l2 N N (0 : Int32) S)
set_option maxHeartbeats 4000000 in
set_option maxRecDepth 100000 in
theorem J_X2_take_8_1 (l : Launch) (g : aWg) (N : Nat) (S : aSt) {r : aSt} (hf : X2_take_8_1 N S = (some r)) : aJ l g yX2_take M_X2_take [.ref 8, .ref 1] LAY S none LAY r 0 0 := by
  refine aJ_of (by decide +kernel) rfl (Nat.le_of_ble_eq_true rfl) (fun h => nomatch h) ?_
  intro C hg hl hC hz hF
  subst hg; subst hl
  have hT := ok_X2_take
  unfold X2_take_8_1 at hf
  show aX C M_X2_take 0 0 (0, [(0, .ref 8), (1, .ref 1)], [], LAY, S)
  refine aRun_ok hC hT 2 (cf' := (2, [(2, .int (0 : Int32)), (0, .ref 8), (1, .ref 1)], [], LAY, S)) (by rfl) ?_
  refine aLocs [1, 2, 0] (lv' := [(0, .ref 8), (1, .ref 1), (2, .int (0 : Int32))]) rfl ?_
  exact X2_take_8_1_l2_ok hC hF N (0 : Int32) S hf
def X10_book_0 (N : Nat) (S : aSt) : Option (Int32 × aSt) := (Option.bind (X9_read_1 N S) (fun w1 => (if w1.1 = ((-1) : Int32) then (Option.bind (X2_take_8_1 N w1.2) (fun w4 => some (((w4.1 1 1), (aI w4 1 0 (0 : Int32)))))) else some ((((-4) : Int32), w1.2)))))
set_option maxHeartbeats 4000000 in
set_option maxRecDepth 100000 in
theorem J_X10_book_0 (l : Launch) (g : aWg) (N : Nat) (S : aSt) {r : Int32 × aSt} (hf : X10_book_0 N S = (some r)) : aJ l g yX10_book M_X10_book [.ref 0] LAY S (some (.int r.1)) LAY r.2 0 0 := by
  refine aJ_of (by decide +kernel) rfl (Nat.le_of_ble_eq_true rfl) (fun h => nomatch h) ?_
  intro C hg hl hC hz hF
  subst hg; subst hl
  have hT := ok_X10_book
  unfold X10_book_0 at hf
  show aX C M_X10_book 0 0 (0, [(0, .ref 0)], [], LAY, S)
  refine aRun_ok hC hT 2 (cf' := (4, [(0, .ref 0)], [.ref 1], LAY, S)) (by rfl) ?_
  obtain ⟨w1, ew2, hf⟩ := aBnE hf
  refine aCallV (b := 1) (As := []) (rest := []) hC hT rfl k_X10_book_88.1 _ _ k_X10_book_88.2 (by decide) (by rfl) (by rfl) (by rfl) (Nat.le_of_ble_eq_true rfl) (by decide) (J_X9_read_1 C.2.2.1 C.1 N  S ew2) ?_
  refine aRun_ok hC hT 1 (cf' := (8, [(0, .ref 0)], [.int ((-1) : Int32), .int w1.1], LAY, w1.2)) (by rfl) ?_
  refine aCmp_eq hC hT (tgt := 14) rfl (by decide) (fun hc3 => ?_) (fun hc3 => ?_)
  · have hf := aIfT hf hc3
    refine aRun_ok hC hT 4 (cf' := (22, [(0, .ref 0)], [.ref 1, .ref 8], LAY, w1.2)) (by rfl) ?_
    obtain ⟨w4, ew5, hf⟩ := aBnE hf
    refine aCallV (b := 8) (As := [.ref 1]) (rest := []) hC hT rfl k_X10_book_92.1 _ _ k_X10_book_92.2 (by decide) (by rfl) (by rfl) (by rfl) (Nat.le_of_ble_eq_true rfl) (by decide) (J_X2_take_8_1 C.2.2.1 C.1 N  w1.2 ew5) ?_
    refine aRun_ok hC hT 7 (cf' := (40, [(0, .ref 0)], [.int (w4.1 1 1)], LAY, (aI w4 1 0 (0 : Int32)))) (by rfl) ?_
    have e9 := Option.some.inj hf; subst e9
    exact aRetI hC hT hF rfl rfl
  · have hf := aIfF hf hc3
    refine aRun_ok hC hT 1 (cf' := (13, [(0, .ref 0)], [.int ((-4) : Int32)], LAY, w1.2)) (by rfl) ?_
    have e9 := Option.some.inj hf; subst e9
    exact aRetI hC hT hF rfl rfl
def X2_told_8 (a1 : Int32) (a2 : Int32) (S : aSt) : Int32 := (if ((a1 * (5 : Int32)) + a2) < (0 : Int32) then (0 : Int32) else (if (150 : Int32) ≤ ((a1 * (5 : Int32)) + a2) then (0 : Int32) else ((S.2.2 9) ((a1 * (5 : Int32)) + a2).toNatClampNeg)))
set_option maxHeartbeats 4000000 in
set_option maxRecDepth 100000 in
theorem J_X2_told_8 (l : Launch) (g : aWg) (a1 : Int32) (a2 : Int32) (S : aSt) {r : Int32} (hf : X2_told_8 a1 a2 S = r) : aJ l g yX2_told M_X2_told [.ref 8, .int a1, .int a2] LAY S (some (.int r)) LAY S 0 0 := by
  refine aJ_of (by decide +kernel) rfl (Nat.le_of_ble_eq_true rfl) (fun h => nomatch h) ?_
  intro C hg hl hC hz hF
  subst hg; subst hl
  have hT := ok_X2_told
  unfold X2_told_8 at hf
  show aX C M_X2_told 0 0 (0, [(0, .ref 8), (1, .int a1), (2, .int a2)], [], LAY, S)
  refine aRun_ok hC hT 7 (cf' := (7, [(3, .int ((a1 * (5 : Int32)) + a2)), (0, .ref 8), (1, .int a1), (2, .int a2)], [.int ((a1 * (5 : Int32)) + a2)], LAY, S)) (by rfl) ?_
  refine aIf_lt hC hT (tgt := 28) rfl (by decide) (fun hc1 => ?_) (fun hc1 => ?_)
  · have hf := aIfT hf hc1
    refine aRun_ok hC hT 1 (cf' := (29, [(3, .int ((a1 * (5 : Int32)) + a2)), (0, .ref 8), (1, .int a1), (2, .int a2)], [.int (0 : Int32)], LAY, S)) (by rfl) ?_
    subst hf
    exact aRetI hC hT hF rfl rfl
  · have hf := aIfF hf hc1
    refine aRun_ok hC hT 4 (cf' := (16, [(3, .int ((a1 * (5 : Int32)) + a2)), (0, .ref 8), (1, .int a1), (2, .int a2)], [.int (150 : Int32), .int ((a1 * (5 : Int32)) + a2)], LAY, S)) (by rfl) ?_
    refine aCmp_ge hC hT (tgt := 28) rfl (by decide) (fun hc2 => ?_) (fun hc2 => ?_)
    · have hf := aIfT hf hc2
      refine aRun_ok hC hT 1 (cf' := (29, [(3, .int ((a1 * (5 : Int32)) + a2)), (0, .ref 8), (1, .int a1), (2, .int a2)], [.int (0 : Int32)], LAY, S)) (by rfl) ?_
      subst hf
      exact aRetI hC hT hF rfl rfl
    · have hf := aIfF hf hc2
      refine aRun_ok hC hT 3 (cf' := (24, [(3, .int ((a1 * (5 : Int32)) + a2)), (0, .ref 8), (1, .int a1), (2, .int a2)], [.int ((a1 * (5 : Int32)) + a2), .ref 9], LAY, S)) (by rfl) ?_
      refine aIald hC hT rfl (by decide) (by rfl) (aIx_of hc1 hc2 (by decide)) ?_
      refine aRun_ok hC hT 1 (cf' := (29, [(3, .int ((a1 * (5 : Int32)) + a2)), (0, .ref 8), (1, .int a1), (2, .int a2)], [.int ((S.2.2 9) ((a1 * (5 : Int32)) + a2).toNatClampNeg)], LAY, S)) (by rfl) ?_
      subst hf
      exact aRetI hC hT hF rfl rfl
def X2_outBy_8 (a1 : Int32) (S : aSt) : Int32 := (aLet (X2_told_8 a1 (0 : Int32) S) (fun w1 => (if w1 = (0 : Int32) then (aLet (X2_told_8 a1 (1 : Int32) S) (fun w6 => w6)) else (aLet (X2_told_8 a1 (1 : Int32) S) (fun w4 => (-w4))))))
set_option maxHeartbeats 4000000 in
set_option maxRecDepth 100000 in
theorem J_X2_outBy_8 (l : Launch) (g : aWg) (a1 : Int32) (S : aSt) {r : Int32} (hf : X2_outBy_8 a1 S = r) : aJ l g yX2_outBy M_X2_outBy [.ref 8, .int a1] LAY S (some (.int r)) LAY S 0 0 := by
  refine aJ_of (by decide +kernel) rfl (Nat.le_of_ble_eq_true rfl) (fun h => nomatch h) ?_
  intro C hg hl hC hz hF
  subst hg; subst hl
  have hT := ok_X2_outBy
  unfold X2_outBy_8 at hf
  show aX C M_X2_outBy 0 0 (0, [(0, .ref 8), (1, .int a1)], [], LAY, S)
  refine aRun_ok hC hT 3 (cf' := (3, [(0, .ref 8), (1, .int a1)], [.int (0 : Int32), .int a1, .ref 8], LAY, S)) (by rfl) ?_
  obtain ⟨w1, ew2, hf⟩ := aLetE hf
  refine aCallV (b := 8) (As := [.int a1, .int (0 : Int32)]) (rest := []) hC hT rfl k_X2_outBy_53.1 _ _ k_X2_outBy_53.2 (by decide) (by rfl) (by rfl) (by rfl) (Nat.le_of_ble_eq_true rfl) (by decide) (J_X2_told_8 C.2.2.1 C.1 a1 (0 : Int32) S ew2) ?_
  refine aIf_ne hC hT (tgt := 18) rfl (by decide) (fun hc3 => ?_) (fun hc3 => ?_)
  · have hf := aIfF hf hc3
    refine aRun_ok hC hT 3 (cf' := (21, [(0, .ref 8), (1, .int a1)], [.int (1 : Int32), .int a1, .ref 8], LAY, S)) (by rfl) ?_
    obtain ⟨w4, ew5, hf⟩ := aLetE hf
    refine aCallV (b := 8) (As := [.int a1, .int (1 : Int32)]) (rest := []) hC hT rfl k_X2_outBy_53.1 _ _ k_X2_outBy_53.2 (by decide) (by rfl) (by rfl) (by rfl) (Nat.le_of_ble_eq_true rfl) (by decide) (J_X2_told_8 C.2.2.1 C.1 a1 (1 : Int32) S ew5) ?_
    refine aRun_ok hC hT 1 (cf' := (25, [(0, .ref 8), (1, .int a1)], [.int (-w4)], LAY, S)) (by rfl) ?_
    subst hf
    exact aRetI hC hT hF rfl rfl
  · have hf := aIfT hf hc3
    refine aRun_ok hC hT 3 (cf' := (12, [(0, .ref 8), (1, .int a1)], [.int (1 : Int32), .int a1, .ref 8], LAY, S)) (by rfl) ?_
    obtain ⟨w6, ew7, hf⟩ := aLetE hf
    refine aCallV (b := 8) (As := [.int a1, .int (1 : Int32)]) (rest := []) hC hT rfl k_X2_outBy_53.1 _ _ k_X2_outBy_53.2 (by decide) (by rfl) (by rfl) (by rfl) (Nat.le_of_ble_eq_true rfl) (by decide) (J_X2_told_8 C.2.2.1 C.1 a1 (1 : Int32) S ew7) ?_
    refine aRun_ok hC hT 1 (cf' := (25, [(0, .ref 8), (1, .int a1)], [.int w6], LAY, S)) (by rfl) ?_
    subst hf
    exact aRetI hC hT hF rfl rfl
def X2_outOf_8_b35 (N : Nat) (S : aSt) (rec4 : Int32 → Int32 → Int32 → Option (Int32)) (v1 : Int32) (v2 : Int32) (v3 : Int32) : Option (Int32) := (rec4 v1 v2 (v3 + (1 : Int32)))
set_option maxHeartbeats 4000000 in
set_option maxRecDepth 100000 in
theorem X2_outOf_8_b35_ok {C : aC} {N : Nat} {S : aSt} {rec4 : Int32 → Int32 → Int32 → Option (Int32)} (hC : aCx C M_X2_outOf) {r : Int32} (hF : aFin C (some (.int r)) LAY S 0 0) (hrec4 : ∀ (v1 : Int32) (v2 : Int32) (v3 : Int32), rec4 v1 v2 v3 = (some r) → aX C M_X2_outOf 0 0 (4, [(0, .ref 8), (1, .int v1), (2, .int v2), (3, .int v3)], [], LAY, S)) (v1 : Int32) (v2 : Int32) (v3 : Int32) (hf : X2_outOf_8_b35 N S rec4 v1 v2 v3 = (some r)) : aX C M_X2_outOf 0 0 (35, [(0, .ref 8), (1, .int v1), (2, .int v2), (3, .int v3)], [], LAY, S) := by
  have hT := ok_X2_outOf
  unfold X2_outOf_8_b35 at hf
  refine aRun_ok hC hT 2 (cf' := (4, [(3, .int (v3 + (1 : Int32))), (0, .ref 8), (1, .int v1), (2, .int v2)], [], LAY, S)) (by rfl) ?_
  refine aLocs [1, 2, 3, 0] (lv' := [(0, .ref 8), (1, .int v1), (2, .int v2), (3, .int (v3 + (1 : Int32)))]) rfl ?_
  exact hrec4 v1 v2 (v3 + (1 : Int32)) hf
def X2_outOf_8_b27 (N : Nat) (S : aSt) (rec4 : Int32 → Int32 → Int32 → Option (Int32)) (v1 : Int32) (v2 : Int32) (v3 : Int32) : Option (Int32) := (aLet (X2_outBy_8 v3 S) (fun w3 => (X2_outOf_8_b35 N S rec4 v1 (v2 + w3) v3)))
set_option maxHeartbeats 4000000 in
set_option maxRecDepth 100000 in
theorem X2_outOf_8_b27_ok {C : aC} {N : Nat} {S : aSt} {rec4 : Int32 → Int32 → Int32 → Option (Int32)} (hC : aCx C M_X2_outOf) {r : Int32} (hF : aFin C (some (.int r)) LAY S 0 0) (hrec4 : ∀ (v1 : Int32) (v2 : Int32) (v3 : Int32), rec4 v1 v2 v3 = (some r) → aX C M_X2_outOf 0 0 (4, [(0, .ref 8), (1, .int v1), (2, .int v2), (3, .int v3)], [], LAY, S)) (v1 : Int32) (v2 : Int32) (v3 : Int32) (hf : X2_outOf_8_b27 N S rec4 v1 v2 v3 = (some r)) : aX C M_X2_outOf 0 0 (27, [(0, .ref 8), (1, .int v1), (2, .int v2), (3, .int v3)], [], LAY, S) := by
  have hT := ok_X2_outOf
  unfold X2_outOf_8_b27 at hf
  refine aRun_ok hC hT 3 (cf' := (30, [(0, .ref 8), (1, .int v1), (2, .int v2), (3, .int v3)], [.int v3, .ref 8, .int v2], LAY, S)) (by rfl) ?_
  obtain ⟨w3, ew4, hf⟩ := aLetE hf
  refine aCallV (b := 8) (As := [.int v3]) (rest := [.int v2]) hC hT rfl k_X2_outOf_57.1 _ _ k_X2_outOf_57.2 (by decide) (by rfl) (by rfl) (by rfl) (Nat.le_of_ble_eq_true rfl) (by decide) (J_X2_outBy_8 C.2.2.1 C.1 v3 S ew4) ?_
  refine aRun_ok hC hT 2 (cf' := (35, [(2, .int (v2 + w3)), (0, .ref 8), (1, .int v1), (3, .int v3)], [], LAY, S)) (by rfl) ?_
  refine aLocs [1, 2, 0, 3] (lv' := [(0, .ref 8), (1, .int v1), (2, .int (v2 + w3)), (3, .int v3)]) rfl ?_
  exact X2_outOf_8_b35_ok hC hF hrec4 v1 (v2 + w3) v3 hf
def X2_outOf_8_b4 (N : Nat) (S : aSt) (rec4 : Int32 → Int32 → Int32 → Option (Int32)) (v1 : Int32) (v2 : Int32) (v3 : Int32) : Option (Int32) := (if (S.1 8 0) ≤ v3 then some (v2) else (if v1 = ((-1) : Int32) then (X2_outOf_8_b27 N S rec4 v1 v2 v3) else (aLet (X2_told_8 v3 (4 : Int32) S) (fun w5 => (if w5 = v1 then (X2_outOf_8_b27 N S rec4 v1 v2 v3) else (X2_outOf_8_b35 N S rec4 v1 v2 v3))))))
set_option maxHeartbeats 4000000 in
set_option maxRecDepth 100000 in
theorem X2_outOf_8_b4_ok {C : aC} {N : Nat} {S : aSt} {rec4 : Int32 → Int32 → Int32 → Option (Int32)} (hC : aCx C M_X2_outOf) {r : Int32} (hF : aFin C (some (.int r)) LAY S 0 0) (hrec4 : ∀ (v1 : Int32) (v2 : Int32) (v3 : Int32), rec4 v1 v2 v3 = (some r) → aX C M_X2_outOf 0 0 (4, [(0, .ref 8), (1, .int v1), (2, .int v2), (3, .int v3)], [], LAY, S)) (v1 : Int32) (v2 : Int32) (v3 : Int32) (hf : X2_outOf_8_b4 N S rec4 v1 v2 v3 = (some r)) : aX C M_X2_outOf 0 0 (4, [(0, .ref 8), (1, .int v1), (2, .int v2), (3, .int v3)], [], LAY, S) := by
  have hT := ok_X2_outOf
  unfold X2_outOf_8_b4 at hf
  refine aRun_ok hC hT 3 (cf' := (9, [(0, .ref 8), (1, .int v1), (2, .int v2), (3, .int v3)], [.int (S.1 8 0), .int v3], LAY, S)) (by rfl) ?_
  refine aCmp_ge hC hT (tgt := 41) rfl (by decide) (fun hc1 => ?_) (fun hc1 => ?_)
  · have hf := aIfT hf hc1
    refine aRun_ok hC hT 1 (cf' := (42, [(0, .ref 8), (1, .int v1), (2, .int v2), (3, .int v3)], [.int v2], LAY, S)) (by rfl) ?_
    have e9 := Option.some.inj hf; subst e9
    exact aRetI hC hT hF rfl rfl
  · have hf := aIfF hf hc1
    refine aRun_ok hC hT 2 (cf' := (14, [(0, .ref 8), (1, .int v1), (2, .int v2), (3, .int v3)], [.int ((-1) : Int32), .int v1], LAY, S)) (by rfl) ?_
    refine aCmp_eq hC hT (tgt := 27) rfl (by decide) (fun hc2 => ?_) (fun hc2 => ?_)
    · have hf := aIfT hf hc2
      exact X2_outOf_8_b27_ok hC hF hrec4 v1 v2 v3 hf
    · have hf := aIfF hf hc2
      refine aRun_ok hC hT 3 (cf' := (20, [(0, .ref 8), (1, .int v1), (2, .int v2), (3, .int v3)], [.int (4 : Int32), .int v3, .ref 8], LAY, S)) (by rfl) ?_
      obtain ⟨w5, ew6, hf⟩ := aLetE hf
      refine aCallV (b := 8) (As := [.int v3, .int (4 : Int32)]) (rest := []) hC hT rfl k_X2_outOf_53.1 _ _ k_X2_outOf_53.2 (by decide) (by rfl) (by rfl) (by rfl) (Nat.le_of_ble_eq_true rfl) (by decide) (J_X2_told_8 C.2.2.1 C.1 v3 (4 : Int32) S ew6) ?_
      refine aRun_ok hC hT 1 (cf' := (24, [(0, .ref 8), (1, .int v1), (2, .int v2), (3, .int v3)], [.int v1, .int w5], LAY, S)) (by rfl) ?_
      refine aCmp_ne hC hT (tgt := 35) rfl (by decide) (fun hc7 => ?_) (fun hc7 => ?_)
      · have hf := aIfF hf hc7
        exact X2_outOf_8_b35_ok hC hF hrec4 v1 v2 v3 hf
      · have hf := aIfT hf hc7
        exact X2_outOf_8_b27_ok hC hF hrec4 v1 v2 v3 hf
def X2_outOf_8_l4 (N : Nat) (S : aSt) : Nat → Int32 → Int32 → Int32 → Option (Int32)
  | 0 => fun _ _ _ => none
  | n + 1 => X2_outOf_8_b4 N S (X2_outOf_8_l4 N S n)
theorem X2_outOf_8_l4_ok {C : aC} {N : Nat} {S : aSt} (hC : aCx C M_X2_outOf) {r : Int32} (hF : aFin C (some (.int r)) LAY S 0 0) : ∀ (n : Nat) (v1 : Int32) (v2 : Int32) (v3 : Int32), X2_outOf_8_l4 N S n v1 v2 v3 = (some r) → aX C M_X2_outOf 0 0 (4, [(0, .ref 8), (1, .int v1), (2, .int v2), (3, .int v3)], [], LAY, S)
  | 0, _, _, _,  h => nomatch (show (none : Option (Int32)) = some _ from h)
  | n + 1, v1, v2, v3,  h => X2_outOf_8_b4_ok hC hF (fun v1 v2 v3 h => X2_outOf_8_l4_ok hC hF n v1 v2 v3 h) v1 v2 v3 h
def X2_outOf_8 (N : Nat) (a1 : Int32) (S : aSt) : Option (Int32) := (X2_outOf_8_l4 N S N a1 (0 : Int32) (0 : Int32))
set_option maxHeartbeats 4000000 in
set_option maxRecDepth 100000 in
theorem J_X2_outOf_8 (l : Launch) (g : aWg) (N : Nat) (a1 : Int32) (S : aSt) {r : Int32} (hf : X2_outOf_8 N a1 S = (some r)) : aJ l g yX2_outOf M_X2_outOf [.ref 8, .int a1] LAY S (some (.int r)) LAY S 0 0 := by
  refine aJ_of (by decide +kernel) rfl (Nat.le_of_ble_eq_true rfl) (fun h => nomatch h) ?_
  intro C hg hl hC hz hF
  subst hg; subst hl
  have hT := ok_X2_outOf
  unfold X2_outOf_8 at hf
  show aX C M_X2_outOf 0 0 (0, [(0, .ref 8), (1, .int a1)], [], LAY, S)
  refine aRun_ok hC hT 4 (cf' := (4, [(3, .int (0 : Int32)), (2, .int (0 : Int32)), (0, .ref 8), (1, .int a1)], [], LAY, S)) (by rfl) ?_
  refine aLocs [2, 3, 1, 0] (lv' := [(0, .ref 8), (1, .int a1), (2, .int (0 : Int32)), (3, .int (0 : Int32))]) rfl ?_
  exact X2_outOf_8_l4_ok hC hF N a1 (0 : Int32) (0 : Int32) hf
def J9_abs_0f7a4 (a0 : Int32) : Int32 := (if (0 : Int32) ≤ a0 then a0 else (-a0))
set_option maxHeartbeats 4000000 in
set_option maxRecDepth 100000 in
theorem J_J9_abs_0f7a4 (l : Launch) (g : aWg) (a0 : Int32) (S : aSt) {r : Int32} (hf : J9_abs_0f7a4 a0 = r) : aJ l g yJ9_abs_0f7a4 M_J9_abs_0f7a4 [.int a0] LAY S (some (.int r)) LAY S 0 0 := by
  refine aJ_of (by decide +kernel) rfl (Nat.le_of_ble_eq_true rfl) (fun h => nomatch h) ?_
  intro C hg hl hC hz hF
  subst hg; subst hl
  have hT := ok_J9_abs_0f7a4
  unfold J9_abs_0f7a4 at hf
  show aX C M_J9_abs_0f7a4 0 0 (0, [(0, .int a0)], [], LAY, S)
  refine aRun_ok hC hT 1 (cf' := (1, [(0, .int a0)], [.int a0], LAY, S)) (by rfl) ?_
  refine aIf_ge hC hT (tgt := 9) rfl (by decide) (fun hc1 => ?_) (fun hc1 => ?_)
  · have hf := aIfT hf hc1
    refine aRun_ok hC hT 1 (cf' := (10, [(0, .int a0)], [.int a0], LAY, S)) (by rfl) ?_
    subst hf
    exact aRetI hC hT hF rfl rfl
  · have hf := aIfF hf hc1
    refine aRun_ok hC hT 3 (cf' := (10, [(0, .int a0)], [.int (-a0)], LAY, S)) (by rfl) ?_
    subst hf
    exact aRetI hC hT hF rfl rfl
def X6_set_15 (a1 : Int32) (a2 : Int32) (S : aSt) : aSt := (if a1 < (0 : Int32) then S else (if (1921 : Int32) ≤ a1 then S else (aA S 15 (upd (S.2.2 15) a1.toNatClampNeg a2))))
set_option maxHeartbeats 4000000 in
set_option maxRecDepth 100000 in
theorem J_X6_set_15 (l : Launch) (g : aWg) (a1 : Int32) (a2 : Int32) (S : aSt) {r : aSt} (hf : X6_set_15 a1 a2 S = r) : aJ l g yX6_set M_X6_set [.ref 15, .int a1, .int a2] LAY S none LAY r 0 0 := by
  refine aJ_of (by decide +kernel) rfl (Nat.le_of_ble_eq_true rfl) (fun h => nomatch h) ?_
  intro C hg hl hC hz hF
  subst hg; subst hl
  have hT := ok_X6_set
  unfold X6_set_15 at hf
  show aX C M_X6_set 0 0 (0, [(0, .ref 15), (1, .int a1), (2, .int a2)], [], LAY, S)
  refine aRun_ok hC hT 1 (cf' := (1, [(0, .ref 15), (1, .int a1), (2, .int a2)], [.int a1], LAY, S)) (by rfl) ?_
  refine aIf_lt hC hT (tgt := 14) rfl (by decide) (fun hc1 => ?_) (fun hc1 => ?_)
  · have hf := aIfT hf hc1
    subst hf
    exact aRetV hC hT hF rfl rfl
  · have hf := aIfF hf hc1
    refine aRun_ok hC hT 3 (cf' := (7, [(0, .ref 15), (1, .int a1), (2, .int a2)], [.int (1921 : Int32), .int a1], LAY, S)) (by rfl) ?_
    refine aCmp_ge hC hT (tgt := 14) rfl (by decide) (fun hc2 => ?_) (fun hc2 => ?_)
    · have hf := aIfT hf hc2
      subst hf
      exact aRetV hC hT hF rfl rfl
    · have hf := aIfF hf hc2
      refine aRun_ok hC hT 3 (cf' := (13, [(0, .ref 15), (1, .int a1), (2, .int a2)], [.int a2, .int a1, .ref 15], LAY, S)) (by rfl) ?_
      refine aIast hC hT rfl (by decide) (by rfl) (aIx_of hc1 hc2 (by decide)) ?_
      subst hf
      exact aRetV hC hT hF rfl rfl
def X6_set_16 (a1 : Int32) (a2 : Int32) (S : aSt) : aSt := (if a1 < (0 : Int32) then S else (if (1921 : Int32) ≤ a1 then S else (aA S 16 (upd (S.2.2 16) a1.toNatClampNeg a2))))
set_option maxHeartbeats 4000000 in
set_option maxRecDepth 100000 in
theorem J_X6_set_16 (l : Launch) (g : aWg) (a1 : Int32) (a2 : Int32) (S : aSt) {r : aSt} (hf : X6_set_16 a1 a2 S = r) : aJ l g yX6_set M_X6_set [.ref 16, .int a1, .int a2] LAY S none LAY r 0 0 := by
  refine aJ_of (by decide +kernel) rfl (Nat.le_of_ble_eq_true rfl) (fun h => nomatch h) ?_
  intro C hg hl hC hz hF
  subst hg; subst hl
  have hT := ok_X6_set
  unfold X6_set_16 at hf
  show aX C M_X6_set 0 0 (0, [(0, .ref 16), (1, .int a1), (2, .int a2)], [], LAY, S)
  refine aRun_ok hC hT 1 (cf' := (1, [(0, .ref 16), (1, .int a1), (2, .int a2)], [.int a1], LAY, S)) (by rfl) ?_
  refine aIf_lt hC hT (tgt := 14) rfl (by decide) (fun hc1 => ?_) (fun hc1 => ?_)
  · have hf := aIfT hf hc1
    subst hf
    exact aRetV hC hT hF rfl rfl
  · have hf := aIfF hf hc1
    refine aRun_ok hC hT 3 (cf' := (7, [(0, .ref 16), (1, .int a1), (2, .int a2)], [.int (1921 : Int32), .int a1], LAY, S)) (by rfl) ?_
    refine aCmp_ge hC hT (tgt := 14) rfl (by decide) (fun hc2 => ?_) (fun hc2 => ?_)
    · have hf := aIfT hf hc2
      subst hf
      exact aRetV hC hT hF rfl rfl
    · have hf := aIfF hf hc2
      refine aRun_ok hC hT 3 (cf' := (13, [(0, .ref 16), (1, .int a1), (2, .int a2)], [.int a2, .int a1, .ref 16], LAY, S)) (by rfl) ?_
      refine aIast hC hT rfl (by decide) (by rfl) (aIx_of hc1 hc2 (by decide)) ?_
      subst hf
      exact aRetV hC hT hF rfl rfl
def X6_set_17 (a1 : Int32) (a2 : Int32) (S : aSt) : aSt := (if a1 < (0 : Int32) then S else (if (1921 : Int32) ≤ a1 then S else (aA S 17 (upd (S.2.2 17) a1.toNatClampNeg a2))))
set_option maxHeartbeats 4000000 in
set_option maxRecDepth 100000 in
theorem J_X6_set_17 (l : Launch) (g : aWg) (a1 : Int32) (a2 : Int32) (S : aSt) {r : aSt} (hf : X6_set_17 a1 a2 S = r) : aJ l g yX6_set M_X6_set [.ref 17, .int a1, .int a2] LAY S none LAY r 0 0 := by
  refine aJ_of (by decide +kernel) rfl (Nat.le_of_ble_eq_true rfl) (fun h => nomatch h) ?_
  intro C hg hl hC hz hF
  subst hg; subst hl
  have hT := ok_X6_set
  unfold X6_set_17 at hf
  show aX C M_X6_set 0 0 (0, [(0, .ref 17), (1, .int a1), (2, .int a2)], [], LAY, S)
  refine aRun_ok hC hT 1 (cf' := (1, [(0, .ref 17), (1, .int a1), (2, .int a2)], [.int a1], LAY, S)) (by rfl) ?_
  refine aIf_lt hC hT (tgt := 14) rfl (by decide) (fun hc1 => ?_) (fun hc1 => ?_)
  · have hf := aIfT hf hc1
    subst hf
    exact aRetV hC hT hF rfl rfl
  · have hf := aIfF hf hc1
    refine aRun_ok hC hT 3 (cf' := (7, [(0, .ref 17), (1, .int a1), (2, .int a2)], [.int (1921 : Int32), .int a1], LAY, S)) (by rfl) ?_
    refine aCmp_ge hC hT (tgt := 14) rfl (by decide) (fun hc2 => ?_) (fun hc2 => ?_)
    · have hf := aIfT hf hc2
      subst hf
      exact aRetV hC hT hF rfl rfl
    · have hf := aIfF hf hc2
      refine aRun_ok hC hT 3 (cf' := (13, [(0, .ref 17), (1, .int a1), (2, .int a2)], [.int a2, .int a1, .ref 17], LAY, S)) (by rfl) ?_
      refine aIast hC hT rfl (by decide) (by rfl) (aIx_of hc1 hc2 (by decide)) ?_
      subst hf
      exact aRetV hC hT hF rfl rfl
def X6_set_18 (a1 : Int32) (a2 : Int32) (S : aSt) : aSt := (if a1 < (0 : Int32) then S else (if (1921 : Int32) ≤ a1 then S else (aA S 18 (upd (S.2.2 18) a1.toNatClampNeg a2))))
set_option maxHeartbeats 4000000 in
set_option maxRecDepth 100000 in
theorem J_X6_set_18 (l : Launch) (g : aWg) (a1 : Int32) (a2 : Int32) (S : aSt) {r : aSt} (hf : X6_set_18 a1 a2 S = r) : aJ l g yX6_set M_X6_set [.ref 18, .int a1, .int a2] LAY S none LAY r 0 0 := by
  refine aJ_of (by decide +kernel) rfl (Nat.le_of_ble_eq_true rfl) (fun h => nomatch h) ?_
  intro C hg hl hC hz hF
  subst hg; subst hl
  have hT := ok_X6_set
  unfold X6_set_18 at hf
  show aX C M_X6_set 0 0 (0, [(0, .ref 18), (1, .int a1), (2, .int a2)], [], LAY, S)
  refine aRun_ok hC hT 1 (cf' := (1, [(0, .ref 18), (1, .int a1), (2, .int a2)], [.int a1], LAY, S)) (by rfl) ?_
  refine aIf_lt hC hT (tgt := 14) rfl (by decide) (fun hc1 => ?_) (fun hc1 => ?_)
  · have hf := aIfT hf hc1
    subst hf
    exact aRetV hC hT hF rfl rfl
  · have hf := aIfF hf hc1
    refine aRun_ok hC hT 3 (cf' := (7, [(0, .ref 18), (1, .int a1), (2, .int a2)], [.int (1921 : Int32), .int a1], LAY, S)) (by rfl) ?_
    refine aCmp_ge hC hT (tgt := 14) rfl (by decide) (fun hc2 => ?_) (fun hc2 => ?_)
    · have hf := aIfT hf hc2
      subst hf
      exact aRetV hC hT hF rfl rfl
    · have hf := aIfF hf hc2
      refine aRun_ok hC hT 3 (cf' := (13, [(0, .ref 18), (1, .int a1), (2, .int a2)], [.int a2, .int a1, .ref 18], LAY, S)) (by rfl) ?_
      refine aIast hC hT rfl (by decide) (by rfl) (aIx_of hc1 hc2 (by decide)) ?_
      subst hf
      exact aRetV hC hT hF rfl rfl
def X6_set_19 (a1 : Int32) (a2 : Int32) (S : aSt) : aSt := (if a1 < (0 : Int32) then S else (if (1921 : Int32) ≤ a1 then S else (aA S 19 (upd (S.2.2 19) a1.toNatClampNeg a2))))
set_option maxHeartbeats 4000000 in
set_option maxRecDepth 100000 in
theorem J_X6_set_19 (l : Launch) (g : aWg) (a1 : Int32) (a2 : Int32) (S : aSt) {r : aSt} (hf : X6_set_19 a1 a2 S = r) : aJ l g yX6_set M_X6_set [.ref 19, .int a1, .int a2] LAY S none LAY r 0 0 := by
  refine aJ_of (by decide +kernel) rfl (Nat.le_of_ble_eq_true rfl) (fun h => nomatch h) ?_
  intro C hg hl hC hz hF
  subst hg; subst hl
  have hT := ok_X6_set
  unfold X6_set_19 at hf
  show aX C M_X6_set 0 0 (0, [(0, .ref 19), (1, .int a1), (2, .int a2)], [], LAY, S)
  refine aRun_ok hC hT 1 (cf' := (1, [(0, .ref 19), (1, .int a1), (2, .int a2)], [.int a1], LAY, S)) (by rfl) ?_
  refine aIf_lt hC hT (tgt := 14) rfl (by decide) (fun hc1 => ?_) (fun hc1 => ?_)
  · have hf := aIfT hf hc1
    subst hf
    exact aRetV hC hT hF rfl rfl
  · have hf := aIfF hf hc1
    refine aRun_ok hC hT 3 (cf' := (7, [(0, .ref 19), (1, .int a1), (2, .int a2)], [.int (1921 : Int32), .int a1], LAY, S)) (by rfl) ?_
    refine aCmp_ge hC hT (tgt := 14) rfl (by decide) (fun hc2 => ?_) (fun hc2 => ?_)
    · have hf := aIfT hf hc2
      subst hf
      exact aRetV hC hT hF rfl rfl
    · have hf := aIfF hf hc2
      refine aRun_ok hC hT 3 (cf' := (13, [(0, .ref 19), (1, .int a1), (2, .int a2)], [.int a2, .int a1, .ref 19], LAY, S)) (by rfl) ?_
      refine aIast hC hT rfl (by decide) (by rfl) (aIx_of hc1 hc2 (by decide)) ?_
      subst hf
      exact aRetV hC hT hF rfl rfl
def X8_put_14 (a1 : Int32) (a2 : Int32) (a3 : Int32) (a4 : Int32) (a5 : Int32) (S : aSt) : aSt := (if a5 ≤ (0 : Int32) then S else (if (S.1 14 0) < (1921 : Int32) then (aLet (X6_set_15 (S.1 14 0) a1 S) (fun w3 => (aLet (X6_set_16 (w3.1 14 0) a2 w3) (fun w5 => (aLet (X6_set_17 (w5.1 14 0) a3 w5) (fun w7 => (aLet (X6_set_18 (w7.1 14 0) a4 w7) (fun w9 => (aLet (X6_set_19 (w9.1 14 0) a5 w9) (fun w11 => (aI w11 14 0 ((w11.1 14 0) + (1 : Int32))))))))))))) else S))
set_option maxHeartbeats 4000000 in
set_option maxRecDepth 100000 in
theorem J_X8_put_14 (l : Launch) (g : aWg) (a1 : Int32) (a2 : Int32) (a3 : Int32) (a4 : Int32) (a5 : Int32) (S : aSt) {r : aSt} (hf : X8_put_14 a1 a2 a3 a4 a5 S = r) : aJ l g yX8_put M_X8_put [.ref 14, .int a1, .int a2, .int a3, .int a4, .int a5] LAY S none LAY r 0 0 := by
  refine aJ_of (by decide +kernel) rfl (Nat.le_of_ble_eq_true rfl) (fun h => nomatch h) ?_
  intro C hg hl hC hz hF
  subst hg; subst hl
  have hT := ok_X8_put
  unfold X8_put_14 at hf
  show aX C M_X8_put 0 0 (0, [(0, .ref 14), (1, .int a1), (2, .int a2), (3, .int a3), (4, .int a4), (5, .int a5)], [], LAY, S)
  refine aRun_ok hC hT 1 (cf' := (2, [(0, .ref 14), (1, .int a1), (2, .int a2), (3, .int a3), (4, .int a4), (5, .int a5)], [.int a5], LAY, S)) (by rfl) ?_
  refine aIf_le hC hT (tgt := 15) rfl (by decide) (fun hc1 => ?_) (fun hc1 => ?_)
  · have hf := aIfT hf hc1
    subst hf
    exact aRetV hC hT hF rfl rfl
  · have hf := aIfF hf hc1
    refine aRun_ok hC hT 3 (cf' := (12, [(0, .ref 14), (1, .int a1), (2, .int a2), (3, .int a3), (4, .int a4), (5, .int a5)], [.int (1921 : Int32), .int (S.1 14 0)], LAY, S)) (by rfl) ?_
    refine aCmp_lt hC hT (tgt := 16) rfl (by decide) (fun hc2 => ?_) (fun hc2 => ?_)
    · have hf := aIfT hf hc2
      refine aRun_ok hC hT 5 (cf' := (25, [(0, .ref 14), (1, .int a1), (2, .int a2), (3, .int a3), (4, .int a4), (5, .int a5)], [.int a1, .int (S.1 14 0), .ref 15], LAY, S)) (by rfl) ?_
      obtain ⟨w3, ew4, hf⟩ := aLetE hf
      refine aCallS (As := [.ref 15, .int (S.1 14 0), .int a1]) (rest := []) hC hT rfl k_X8_put_149.1 _ k_X8_put_149.2 (by rfl) (Nat.le_of_ble_eq_true rfl) (by decide) (J_X6_set_15 C.2.2.1 C.1 (S.1 14 0) a1 S ew4) ?_
      refine aRun_ok hC hT 5 (cf' := (37, [(0, .ref 14), (1, .int a1), (2, .int a2), (3, .int a3), (4, .int a4), (5, .int a5)], [.int a2, .int (w3.1 14 0), .ref 16], LAY, w3)) (by rfl) ?_
      obtain ⟨w5, ew6, hf⟩ := aLetE hf
      refine aCallS (As := [.ref 16, .int (w3.1 14 0), .int a2]) (rest := []) hC hT rfl k_X8_put_149.1 _ k_X8_put_149.2 (by rfl) (Nat.le_of_ble_eq_true rfl) (by decide) (J_X6_set_16 C.2.2.1 C.1 (w3.1 14 0) a2 w3 ew6) ?_
      refine aRun_ok hC hT 5 (cf' := (49, [(0, .ref 14), (1, .int a1), (2, .int a2), (3, .int a3), (4, .int a4), (5, .int a5)], [.int a3, .int (w5.1 14 0), .ref 17], LAY, w5)) (by rfl) ?_
      obtain ⟨w7, ew8, hf⟩ := aLetE hf
      refine aCallS (As := [.ref 17, .int (w5.1 14 0), .int a3]) (rest := []) hC hT rfl k_X8_put_149.1 _ k_X8_put_149.2 (by rfl) (Nat.le_of_ble_eq_true rfl) (by decide) (J_X6_set_17 C.2.2.1 C.1 (w5.1 14 0) a3 w5 ew8) ?_
      refine aRun_ok hC hT 5 (cf' := (62, [(0, .ref 14), (1, .int a1), (2, .int a2), (3, .int a3), (4, .int a4), (5, .int a5)], [.int a4, .int (w7.1 14 0), .ref 18], LAY, w7)) (by rfl) ?_
      obtain ⟨w9, ew10, hf⟩ := aLetE hf
      refine aCallS (As := [.ref 18, .int (w7.1 14 0), .int a4]) (rest := []) hC hT rfl k_X8_put_149.1 _ k_X8_put_149.2 (by rfl) (Nat.le_of_ble_eq_true rfl) (by decide) (J_X6_set_18 C.2.2.1 C.1 (w7.1 14 0) a4 w7 ew10) ?_
      refine aRun_ok hC hT 5 (cf' := (75, [(0, .ref 14), (1, .int a1), (2, .int a2), (3, .int a3), (4, .int a4), (5, .int a5)], [.int a5, .int (w9.1 14 0), .ref 19], LAY, w9)) (by rfl) ?_
      obtain ⟨w11, ew12, hf⟩ := aLetE hf
      refine aCallS (As := [.ref 19, .int (w9.1 14 0), .int a5]) (rest := []) hC hT rfl k_X8_put_149.1 _ k_X8_put_149.2 (by rfl) (Nat.le_of_ble_eq_true rfl) (by decide) (J_X6_set_19 C.2.2.1 C.1 (w9.1 14 0) a5 w9 ew12) ?_
      refine aRun_ok hC hT 6 (cf' := (88, [(0, .ref 14), (1, .int a1), (2, .int a2), (3, .int a3), (4, .int a4), (5, .int a5)], [], LAY, (aI w11 14 0 ((w11.1 14 0) + (1 : Int32))))) (by rfl) ?_
      subst hf
      exact aRetV hC hT hF rfl rfl
    · have hf := aIfF hf hc2
      subst hf
      exact aRetV hC hT hF rfl rfl
def X8_putMissed_14_b27 (v1 : Int32) (v2 : Int32) (s0 : Int32) (s1 : Int32) (S : aSt) : aSt := (aLet (X8_put_14 s1 s0 v2 (-v1) (S.1 8 1) S) (fun w6 => w6))
set_option maxHeartbeats 4000000 in
set_option maxRecDepth 100000 in
theorem X8_putMissed_14_b27_ok {C : aC} (hC : aCx C M_X8_putMissed) {r : aSt} (hF : aFin C none LAY r 0 0) (v1 : Int32) (v2 : Int32) (s0 : Int32) (s1 : Int32) (S : aSt) (hf : X8_putMissed_14_b27 v1 v2 s0 s1 S = r) : aX C M_X8_putMissed 0 0 (27, [(0, .ref 14), (1, .int v1), (2, .int v2)], [.int s0, .int s1, .ref 14], LAY, S) := by
  have hT := ok_X8_putMissed
  unfold X8_putMissed_14_b27 at hf
  refine aRun_ok hC hT 6 (cf' := (37, [(0, .ref 14), (1, .int v1), (2, .int v2)], [.int (S.1 8 1), .int (-v1), .int v2, .int s0, .int s1, .ref 14], LAY, S)) (by rfl) ?_
  obtain ⟨w6, ew7, hf⟩ := aLetE hf
  refine aCallV (b := 14) (As := [.int s1, .int s0, .int v2, .int (-v1), .int (S.1 8 1)]) (rest := []) hC hT rfl k_X8_putMissed_98.1 _ _ k_X8_putMissed_98.2 (by decide) (by rfl) (by rfl) (by rfl) (Nat.le_of_ble_eq_true rfl) (by decide) (J_X8_put_14 C.2.2.1 C.1 s1 s0 v2 (-v1) (S.1 8 1) S ew7) ?_
  subst hf
  exact aRetV hC hT hF rfl rfl
def X8_putMissed_14 (a1 : Int32) (S : aSt) : aSt := (aLet (J9_abs_0f7a4 a1) (fun w1 => (if w1 < (1 : Int32) then S else (if (999999 : Int32) < w1 then S else (if a1 ≤ (0 : Int32) then (X8_putMissed_14_b27 a1 w1 (0 : Int32) (5 : Int32) S) else (X8_putMissed_14_b27 a1 w1 (1 : Int32) (5 : Int32) S))))))
set_option maxHeartbeats 4000000 in
set_option maxRecDepth 100000 in
theorem J_X8_putMissed_14 (l : Launch) (g : aWg) (a1 : Int32) (S : aSt) {r : aSt} (hf : X8_putMissed_14 a1 S = r) : aJ l g yX8_putMissed M_X8_putMissed [.ref 14, .int a1] LAY S none LAY r 0 0 := by
  refine aJ_of (by decide +kernel) rfl (Nat.le_of_ble_eq_true rfl) (fun h => nomatch h) ?_
  intro C hg hl hC hz hF
  subst hg; subst hl
  have hT := ok_X8_putMissed
  unfold X8_putMissed_14 at hf
  show aX C M_X8_putMissed 0 0 (0, [(0, .ref 14), (1, .int a1)], [], LAY, S)
  refine aRun_ok hC hT 1 (cf' := (1, [(0, .ref 14), (1, .int a1)], [.int a1], LAY, S)) (by rfl) ?_
  obtain ⟨w1, ew2, hf⟩ := aLetE hf
  refine aCallS (As := [.int a1]) (rest := []) hC hT rfl k_X8_putMissed_136.1 _ k_X8_putMissed_136.2 (by rfl) (Nat.le_of_ble_eq_true rfl) (by decide) (J_J9_abs_0f7a4 C.2.2.1 C.1 a1 S ew2) ?_
  refine aRun_ok hC hT 3 (cf' := (7, [(2, .int w1), (0, .ref 14), (1, .int a1)], [.int (1 : Int32), .int w1], LAY, S)) (by rfl) ?_
  refine aCmp_lt hC hT (tgt := 40) rfl (by decide) (fun hc3 => ?_) (fun hc3 => ?_)
  · have hf := aIfT hf hc3
    subst hf
    exact aRetV hC hT hF rfl rfl
  · have hf := aIfF hf hc3
    refine aRun_ok hC hT 2 (cf' := (13, [(2, .int w1), (0, .ref 14), (1, .int a1)], [.int (999999 : Int32), .int w1], LAY, S)) (by rfl) ?_
    refine aCmp_gt hC hT (tgt := 40) rfl (by decide) (fun hc4 => ?_) (fun hc4 => ?_)
    · have hf := aIfT hf hc4
      subst hf
      exact aRetV hC hT hF rfl rfl
    · have hf := aIfF hf hc4
      refine aRun_ok hC hT 3 (cf' := (19, [(2, .int w1), (0, .ref 14), (1, .int a1)], [.int a1, .int (5 : Int32), .ref 14], LAY, S)) (by rfl) ?_
      refine aIf_le hC hT (tgt := 26) rfl (by decide) (fun hc5 => ?_) (fun hc5 => ?_)
      · have hf := aIfT hf hc5
        refine aRun_ok hC hT 1 (cf' := (27, [(2, .int w1), (0, .ref 14), (1, .int a1)], [.int (0 : Int32), .int (5 : Int32), .ref 14], LAY, S)) (by rfl) ?_
        refine aLocs [1, 2, 0] (lv' := [(0, .ref 14), (1, .int a1), (2, .int w1)]) rfl ?_
        exact X8_putMissed_14_b27_ok hC hF a1 w1 (0 : Int32) (5 : Int32) S hf
      · have hf := aIfF hf hc5
        refine aRun_ok hC hT 2 (cf' := (27, [(2, .int w1), (0, .ref 14), (1, .int a1)], [.int (1 : Int32), .int (5 : Int32), .ref 14], LAY, S)) (by rfl) ?_
        refine aLocs [1, 2, 0] (lv' := [(0, .ref 14), (1, .int a1), (2, .int w1)]) rfl ?_
        exact X8_putMissed_14_b27_ok hC hF a1 w1 (1 : Int32) (5 : Int32) S hf
def J7_fill_53178_20_b5 (N : Nat) (rec5 : Int32 → Int32 → Int32 → aSt → Option (aSt)) (v1 : Int32) (v2 : Int32) (v3 : Int32) (S : aSt) : Option (aSt) := (if v3 ≤ v2 then some (S) else (if aIx v2 1021 = true then (rec5 v1 (v2 + (1 : Int32)) v3 (aA S 20 (upd (S.2.2 20) v2.toNatClampNeg v1))) else none))
set_option maxHeartbeats 4000000 in
set_option maxRecDepth 100000 in
theorem J7_fill_53178_20_b5_ok {C : aC} {N : Nat} {rec5 : Int32 → Int32 → Int32 → aSt → Option (aSt)} (hC : aCx C M_J7_fill_53178) {r : aSt} (hF : aFin C none LAY r 0 0) (hrec5 : ∀ (v1 : Int32) (v2 : Int32) (v3 : Int32) (S : aSt), rec5 v1 v2 v3 S = (some r) → aX C M_J7_fill_53178 0 0 (5, [(0, .ref 20), (1, .int v1), (2, .int v2), (3, .int v3)], [], LAY, S)) (v1 : Int32) (v2 : Int32) (v3 : Int32) (S : aSt) (hf : J7_fill_53178_20_b5 N rec5 v1 v2 v3 S = (some r)) : aX C M_J7_fill_53178 0 0 (5, [(0, .ref 20), (1, .int v1), (2, .int v2), (3, .int v3)], [], LAY, S) := by
  have hT := ok_J7_fill_53178
  unfold J7_fill_53178_20_b5 at hf
  refine aRun_ok hC hT 2 (cf' := (7, [(0, .ref 20), (1, .int v1), (2, .int v2), (3, .int v3)], [.int v3, .int v2], LAY, S)) (by rfl) ?_
  refine aCmp_ge hC hT (tgt := 20) rfl (by decide) (fun hc1 => ?_) (fun hc1 => ?_)
  · have hf := aIfT hf hc1
    have e9 := Option.some.inj hf; subst e9
    exact aRetV hC hT hF rfl rfl
  · have hf := aIfF hf hc1
    refine aRun_ok hC hT 3 (cf' := (13, [(0, .ref 20), (1, .int v1), (2, .int v2), (3, .int v3)], [.int v1, .int v2, .ref 20], LAY, S)) (by rfl) ?_
    obtain ⟨hin2, hf⟩ := aGdE hf
    refine aIast hC hT rfl (by decide) (by rfl) hin2 ?_
    refine aRun_ok hC hT 2 (cf' := (5, [(2, .int (v2 + (1 : Int32))), (0, .ref 20), (1, .int v1), (3, .int v3)], [], LAY, (aA S 20 (upd (S.2.2 20) v2.toNatClampNeg v1)))) (by rfl) ?_
    refine aLocs [1, 2, 0, 3] (lv' := [(0, .ref 20), (1, .int v1), (2, .int (v2 + (1 : Int32))), (3, .int v3)]) rfl ?_
    exact hrec5 v1 (v2 + (1 : Int32)) v3 (aA S 20 (upd (S.2.2 20) v2.toNatClampNeg v1)) hf
def J7_fill_53178_20_l5 (N : Nat) : Nat → Int32 → Int32 → Int32 → aSt → Option (aSt)
  | 0 => fun _ _ _ _ => none
  | n + 1 => J7_fill_53178_20_b5 N (J7_fill_53178_20_l5 N n)
theorem J7_fill_53178_20_l5_ok {C : aC} {N : Nat} (hC : aCx C M_J7_fill_53178) {r : aSt} (hF : aFin C none LAY r 0 0) : ∀ (n : Nat) (v1 : Int32) (v2 : Int32) (v3 : Int32) (S : aSt), J7_fill_53178_20_l5 N n v1 v2 v3 S = (some r) → aX C M_J7_fill_53178 0 0 (5, [(0, .ref 20), (1, .int v1), (2, .int v2), (3, .int v3)], [], LAY, S)
  | 0, _, _, _, _,  h => nomatch (show (none : Option (aSt)) = some _ from h)
  | n + 1, v1, v2, v3, S,  h => J7_fill_53178_20_b5_ok hC hF (fun v1 v2 v3 S h => J7_fill_53178_20_l5_ok hC hF n v1 v2 v3 S h) v1 v2 v3 S h
def J7_fill_53178_20 (N : Nat) (a1 : Int32) (S : aSt) : Option (aSt) := (J7_fill_53178_20_l5 N N a1 (0 : Int32) (1021 : Int32) S)
set_option maxHeartbeats 4000000 in
set_option maxRecDepth 100000 in
theorem J_J7_fill_53178_20 (l : Launch) (g : aWg) (N : Nat) (a1 : Int32) (S : aSt) {r : aSt} (hf : J7_fill_53178_20 N a1 S = (some r)) : aJ l g yJ7_fill_53178 M_J7_fill_53178 [.ref 20, .int a1] LAY S none LAY r 0 0 := by
  refine aJ_of (by decide +kernel) rfl (Nat.le_of_ble_eq_true rfl) (fun h => nomatch h) ?_
  intro C hg hl hC hz hF
  subst hg; subst hl
  have hT := ok_J7_fill_53178
  unfold J7_fill_53178_20 at hf
  show aX C M_J7_fill_53178 0 0 (0, [(0, .ref 20), (1, .int a1)], [], LAY, S)
  refine aRun_ok hC hT 5 (cf' := (5, [(3, .int (1021 : Int32)), (2, .int (0 : Int32)), (0, .ref 20), (1, .int a1)], [], LAY, S)) (by rfl) ?_
  refine aLocs [2, 3, 1, 0] (lv' := [(0, .ref 20), (1, .int a1), (2, .int (0 : Int32)), (3, .int (1021 : Int32))]) rfl ?_
  exact J7_fill_53178_20_l5_ok hC hF N a1 (0 : Int32) (1021 : Int32) S hf
def X6_at_18 (a1 : Int32) (S : aSt) : Int32 := (if a1 < (0 : Int32) then (0 : Int32) else (if (1921 : Int32) ≤ a1 then (0 : Int32) else ((S.2.2 18) a1.toNatClampNeg)))
set_option maxHeartbeats 4000000 in
set_option maxRecDepth 100000 in
theorem J_X6_at_18 (l : Launch) (g : aWg) (a1 : Int32) (S : aSt) {r : Int32} (hf : X6_at_18 a1 S = r) : aJ l g yX6_at M_X6_at [.ref 18, .int a1] LAY S (some (.int r)) LAY S 0 0 := by
  refine aJ_of (by decide +kernel) rfl (Nat.le_of_ble_eq_true rfl) (fun h => nomatch h) ?_
  intro C hg hl hC hz hF
  subst hg; subst hl
  have hT := ok_X6_at
  unfold X6_at_18 at hf
  show aX C M_X6_at 0 0 (0, [(0, .ref 18), (1, .int a1)], [], LAY, S)
  refine aRun_ok hC hT 1 (cf' := (1, [(0, .ref 18), (1, .int a1)], [.int a1], LAY, S)) (by rfl) ?_
  refine aIf_lt hC hT (tgt := 16) rfl (by decide) (fun hc1 => ?_) (fun hc1 => ?_)
  · have hf := aIfT hf hc1
    refine aRun_ok hC hT 1 (cf' := (17, [(0, .ref 18), (1, .int a1)], [.int (0 : Int32)], LAY, S)) (by rfl) ?_
    subst hf
    exact aRetI hC hT hF rfl rfl
  · have hf := aIfF hf hc1
    refine aRun_ok hC hT 3 (cf' := (7, [(0, .ref 18), (1, .int a1)], [.int (1921 : Int32), .int a1], LAY, S)) (by rfl) ?_
    refine aCmp_ge hC hT (tgt := 16) rfl (by decide) (fun hc2 => ?_) (fun hc2 => ?_)
    · have hf := aIfT hf hc2
      refine aRun_ok hC hT 1 (cf' := (17, [(0, .ref 18), (1, .int a1)], [.int (0 : Int32)], LAY, S)) (by rfl) ?_
      subst hf
      exact aRetI hC hT hF rfl rfl
    · have hf := aIfF hf hc2
      refine aRun_ok hC hT 2 (cf' := (12, [(0, .ref 18), (1, .int a1)], [.int a1, .ref 18], LAY, S)) (by rfl) ?_
      refine aIald hC hT rfl (by decide) (by rfl) (aIx_of hc1 hc2 (by decide)) ?_
      refine aRun_ok hC hT 1 (cf' := (17, [(0, .ref 18), (1, .int a1)], [.int ((S.2.2 18) a1.toNatClampNeg)], LAY, S)) (by rfl) ?_
      subst hf
      exact aRetI hC hT hF rfl rfl
def X8_change_14 (a1 : Int32) (S : aSt) : Int32 := (aLet (X6_at_18 a1 S) (fun w1 => w1))
set_option maxHeartbeats 4000000 in
set_option maxRecDepth 100000 in
theorem J_X8_change_14 (l : Launch) (g : aWg) (a1 : Int32) (S : aSt) {r : Int32} (hf : X8_change_14 a1 S = r) : aJ l g yX8_change M_X8_change [.ref 14, .int a1] LAY S (some (.int r)) LAY S 0 0 := by
  refine aJ_of (by decide +kernel) rfl (Nat.le_of_ble_eq_true rfl) (fun h => nomatch h) ?_
  intro C hg hl hC hz hF
  subst hg; subst hl
  have hT := ok_X8_change
  unfold X8_change_14 at hf
  show aX C M_X8_change 0 0 (0, [(0, .ref 14), (1, .int a1)], [], LAY, S)
  refine aRun_ok hC hT 3 (cf' := (5, [(0, .ref 14), (1, .int a1)], [.int a1, .ref 18], LAY, S)) (by rfl) ?_
  obtain ⟨w1, ew2, hf⟩ := aLetE hf
  refine aCallS (As := [.ref 18, .int a1]) (rest := []) hC hT rfl k_X8_change_37.1 _ k_X8_change_37.2 (by rfl) (Nat.le_of_ble_eq_true rfl) (by decide) (J_X6_at_18 C.2.2.1 C.1 a1 S ew2) ?_
  subst hf
  exact aRetI hC hT hF rfl rfl
def J9_floorMod_7cf53 (N : Nat) (a0 : Int32) (a1 : Int32) : Option (Int32) := (if ¬ a1 = (0 : Int32) then (if (0 : Int32) ≤ (a0 ^^^ a1) then some ((a0 - a0 / a1 * a1)) else (if (a0 - a0 / a1 * a1) = (0 : Int32) then some ((a0 - a0 / a1 * a1)) else some (((a0 - a0 / a1 * a1) + a1)))) else none)
set_option maxHeartbeats 4000000 in
set_option maxRecDepth 100000 in
theorem J_J9_floorMod_7cf53 (l : Launch) (g : aWg) (N : Nat) (a0 : Int32) (a1 : Int32) (S : aSt) {r : Int32} (hf : J9_floorMod_7cf53 N a0 a1 = (some r)) : aJ l g yJ9_floorMod_7cf53 M_J9_floorMod_7cf53 [.int a0, .int a1] LAY S (some (.int r)) LAY S 0 0 := by
  refine aJ_of (by decide +kernel) rfl (Nat.le_of_ble_eq_true rfl) (fun h => nomatch h) ?_
  intro C hg hl hC hz hF
  subst hg; subst hl
  have hT := ok_J9_floorMod_7cf53
  unfold J9_floorMod_7cf53 at hf
  show aX C M_J9_floorMod_7cf53 0 0 (0, [(0, .int a0), (1, .int a1)], [], LAY, S)
  refine aRun_ok hC hT 2 (cf' := (2, [(0, .int a0), (1, .int a1)], [.int a1, .int a0], LAY, S)) (by rfl) ?_
  obtain ⟨hy1, hf⟩ := aGdE hf
  refine aIrem hC hT rfl hy1 ?_
  refine aRun_ok hC hT 4 (cf' := (7, [(2, .int (a0 - a0 / a1 * a1)), (0, .int a0), (1, .int a1)], [.int (a0 ^^^ a1)], LAY, S)) (by rfl) ?_
  refine aIf_ge hC hT (tgt := 18) rfl (by decide) (fun hc2 => ?_) (fun hc2 => ?_)
  · have hf := aIfT hf hc2
    refine aRun_ok hC hT 1 (cf' := (19, [(2, .int (a0 - a0 / a1 * a1)), (0, .int a0), (1, .int a1)], [.int (a0 - a0 / a1 * a1)], LAY, S)) (by rfl) ?_
    have e9 := Option.some.inj hf; subst e9
    exact aRetI hC hT hF rfl rfl
  · have hf := aIfF hf hc2
    refine aRun_ok hC hT 1 (cf' := (11, [(2, .int (a0 - a0 / a1 * a1)), (0, .int a0), (1, .int a1)], [.int (a0 - a0 / a1 * a1)], LAY, S)) (by rfl) ?_
    refine aIf_eq hC hT (tgt := 18) rfl (by decide) (fun hc3 => ?_) (fun hc3 => ?_)
    · have hf := aIfT hf hc3
      refine aRun_ok hC hT 1 (cf' := (19, [(2, .int (a0 - a0 / a1 * a1)), (0, .int a0), (1, .int a1)], [.int (a0 - a0 / a1 * a1)], LAY, S)) (by rfl) ?_
      have e9 := Option.some.inj hf; subst e9
      exact aRetI hC hT hF rfl rfl
    · have hf := aIfF hf hc3
      refine aRun_ok hC hT 3 (cf' := (17, [(2, .int (a0 - a0 / a1 * a1)), (0, .int a0), (1, .int a1)], [.int ((a0 - a0 / a1 * a1) + a1)], LAY, S)) (by rfl) ?_
      have e9 := Option.some.inj hf; subst e9
      exact aRetI hC hT hF rfl rfl
def X6_at_20 (a1 : Int32) (S : aSt) : Int32 := (if a1 < (0 : Int32) then (0 : Int32) else (if (1021 : Int32) ≤ a1 then (0 : Int32) else ((S.2.2 20) a1.toNatClampNeg)))
set_option maxHeartbeats 4000000 in
set_option maxRecDepth 100000 in
theorem J_X6_at_20 (l : Launch) (g : aWg) (a1 : Int32) (S : aSt) {r : Int32} (hf : X6_at_20 a1 S = r) : aJ l g yX6_at M_X6_at [.ref 20, .int a1] LAY S (some (.int r)) LAY S 0 0 := by
  refine aJ_of (by decide +kernel) rfl (Nat.le_of_ble_eq_true rfl) (fun h => nomatch h) ?_
  intro C hg hl hC hz hF
  subst hg; subst hl
  have hT := ok_X6_at
  unfold X6_at_20 at hf
  show aX C M_X6_at 0 0 (0, [(0, .ref 20), (1, .int a1)], [], LAY, S)
  refine aRun_ok hC hT 1 (cf' := (1, [(0, .ref 20), (1, .int a1)], [.int a1], LAY, S)) (by rfl) ?_
  refine aIf_lt hC hT (tgt := 16) rfl (by decide) (fun hc1 => ?_) (fun hc1 => ?_)
  · have hf := aIfT hf hc1
    refine aRun_ok hC hT 1 (cf' := (17, [(0, .ref 20), (1, .int a1)], [.int (0 : Int32)], LAY, S)) (by rfl) ?_
    subst hf
    exact aRetI hC hT hF rfl rfl
  · have hf := aIfF hf hc1
    refine aRun_ok hC hT 3 (cf' := (7, [(0, .ref 20), (1, .int a1)], [.int (1021 : Int32), .int a1], LAY, S)) (by rfl) ?_
    refine aCmp_ge hC hT (tgt := 16) rfl (by decide) (fun hc2 => ?_) (fun hc2 => ?_)
    · have hf := aIfT hf hc2
      refine aRun_ok hC hT 1 (cf' := (17, [(0, .ref 20), (1, .int a1)], [.int (0 : Int32)], LAY, S)) (by rfl) ?_
      subst hf
      exact aRetI hC hT hF rfl rfl
    · have hf := aIfF hf hc2
      refine aRun_ok hC hT 2 (cf' := (12, [(0, .ref 20), (1, .int a1)], [.int a1, .ref 20], LAY, S)) (by rfl) ?_
      refine aIald hC hT rfl (by decide) (by rfl) (aIx_of hc1 hc2 (by decide)) ?_
      refine aRun_ok hC hT 1 (cf' := (17, [(0, .ref 20), (1, .int a1)], [.int ((S.2.2 20) a1.toNatClampNeg)], LAY, S)) (by rfl) ?_
      subst hf
      exact aRetI hC hT hF rfl rfl
def X6_set_21 (a1 : Int32) (a2 : Int32) (S : aSt) : aSt := (if a1 < (0 : Int32) then S else (if (1921 : Int32) ≤ a1 then S else (aA S 21 (upd (S.2.2 21) a1.toNatClampNeg a2))))
set_option maxHeartbeats 4000000 in
set_option maxRecDepth 100000 in
theorem J_X6_set_21 (l : Launch) (g : aWg) (a1 : Int32) (a2 : Int32) (S : aSt) {r : aSt} (hf : X6_set_21 a1 a2 S = r) : aJ l g yX6_set M_X6_set [.ref 21, .int a1, .int a2] LAY S none LAY r 0 0 := by
  refine aJ_of (by decide +kernel) rfl (Nat.le_of_ble_eq_true rfl) (fun h => nomatch h) ?_
  intro C hg hl hC hz hF
  subst hg; subst hl
  have hT := ok_X6_set
  unfold X6_set_21 at hf
  show aX C M_X6_set 0 0 (0, [(0, .ref 21), (1, .int a1), (2, .int a2)], [], LAY, S)
  refine aRun_ok hC hT 1 (cf' := (1, [(0, .ref 21), (1, .int a1), (2, .int a2)], [.int a1], LAY, S)) (by rfl) ?_
  refine aIf_lt hC hT (tgt := 14) rfl (by decide) (fun hc1 => ?_) (fun hc1 => ?_)
  · have hf := aIfT hf hc1
    subst hf
    exact aRetV hC hT hF rfl rfl
  · have hf := aIfF hf hc1
    refine aRun_ok hC hT 3 (cf' := (7, [(0, .ref 21), (1, .int a1), (2, .int a2)], [.int (1921 : Int32), .int a1], LAY, S)) (by rfl) ?_
    refine aCmp_ge hC hT (tgt := 14) rfl (by decide) (fun hc2 => ?_) (fun hc2 => ?_)
    · have hf := aIfT hf hc2
      subst hf
      exact aRetV hC hT hF rfl rfl
    · have hf := aIfF hf hc2
      refine aRun_ok hC hT 3 (cf' := (13, [(0, .ref 21), (1, .int a1), (2, .int a2)], [.int a2, .int a1, .ref 21], LAY, S)) (by rfl) ?_
      refine aIast hC hT rfl (by decide) (by rfl) (aIx_of hc1 hc2 (by decide)) ?_
      subst hf
      exact aRetV hC hT hF rfl rfl
def X6_set_20 (a1 : Int32) (a2 : Int32) (S : aSt) : aSt := (if a1 < (0 : Int32) then S else (if (1021 : Int32) ≤ a1 then S else (aA S 20 (upd (S.2.2 20) a1.toNatClampNeg a2))))
set_option maxHeartbeats 4000000 in
set_option maxRecDepth 100000 in
theorem J_X6_set_20 (l : Launch) (g : aWg) (a1 : Int32) (a2 : Int32) (S : aSt) {r : aSt} (hf : X6_set_20 a1 a2 S = r) : aJ l g yX6_set M_X6_set [.ref 20, .int a1, .int a2] LAY S none LAY r 0 0 := by
  refine aJ_of (by decide +kernel) rfl (Nat.le_of_ble_eq_true rfl) (fun h => nomatch h) ?_
  intro C hg hl hC hz hF
  subst hg; subst hl
  have hT := ok_X6_set
  unfold X6_set_20 at hf
  show aX C M_X6_set 0 0 (0, [(0, .ref 20), (1, .int a1), (2, .int a2)], [], LAY, S)
  refine aRun_ok hC hT 1 (cf' := (1, [(0, .ref 20), (1, .int a1), (2, .int a2)], [.int a1], LAY, S)) (by rfl) ?_
  refine aIf_lt hC hT (tgt := 14) rfl (by decide) (fun hc1 => ?_) (fun hc1 => ?_)
  · have hf := aIfT hf hc1
    subst hf
    exact aRetV hC hT hF rfl rfl
  · have hf := aIfF hf hc1
    refine aRun_ok hC hT 3 (cf' := (7, [(0, .ref 20), (1, .int a1), (2, .int a2)], [.int (1021 : Int32), .int a1], LAY, S)) (by rfl) ?_
    refine aCmp_ge hC hT (tgt := 14) rfl (by decide) (fun hc2 => ?_) (fun hc2 => ?_)
    · have hf := aIfT hf hc2
      subst hf
      exact aRetV hC hT hF rfl rfl
    · have hf := aIfF hf hc2
      refine aRun_ok hC hT 3 (cf' := (13, [(0, .ref 20), (1, .int a1), (2, .int a2)], [.int a2, .int a1, .ref 20], LAY, S)) (by rfl) ?_
      refine aIast hC hT rfl (by decide) (by rfl) (aIx_of hc1 hc2 (by decide)) ?_
      subst hf
      exact aRetV hC hT hF rfl rfl
def X8_chain_14_b15 (N : Nat) (rec15 : Int32 → aSt → Option (aSt)) (v1 : Int32) (S : aSt) : Option (aSt) := (if v1 < (0 : Int32) then some (S) else (aLet (X8_change_14 v1 S) (fun w4 => (Option.bind (J9_floorMod_7cf53 N w4 (1021 : Int32)) (fun w6 => (aLet (X6_at_20 w6 S) (fun w8 => (aLet (X6_set_21 v1 w8 S) (fun w10 => (aLet (X6_set_20 w6 v1 w10) (fun w12 => (rec15 (v1 + ((-1) : Int32)) w12))))))))))))
set_option maxHeartbeats 4000000 in
set_option maxRecDepth 100000 in
theorem X8_chain_14_b15_ok {C : aC} {N : Nat} {rec15 : Int32 → aSt → Option (aSt)} (hC : aCx C M_X8_chain) {r : aSt} (hF : aFin C none LAY r 0 0) (hrec15 : ∀ (v1 : Int32) (S : aSt), rec15 v1 S = (some r) → aX C M_X8_chain 0 0 (15, [(0, .ref 14), (1, .int v1)], [], LAY, S)) (v1 : Int32) (S : aSt) (hf : X8_chain_14_b15 N rec15 v1 S = (some r)) : aX C M_X8_chain 0 0 (15, [(0, .ref 14), (1, .int v1)], [], LAY, S) := by
  have hT := ok_X8_chain
  unfold X8_chain_14_b15 at hf
  refine aRun_ok hC hT 1 (cf' := (16, [(0, .ref 14), (1, .int v1)], [.int v1], LAY, S)) (by rfl) ?_
  refine aIf_lt hC hT (tgt := 62) rfl (by decide) (fun hc3 => ?_) (fun hc3 => ?_)
  · have hf := aIfT hf hc3
    have e9 := Option.some.inj hf; subst e9
    exact aRetV hC hT hF rfl rfl
  · have hf := aIfF hf hc3
    refine aRun_ok hC hT 2 (cf' := (21, [(0, .ref 14), (1, .int v1)], [.int v1, .ref 14], LAY, S)) (by rfl) ?_
    obtain ⟨w4, ew5, hf⟩ := aLetE hf
    refine aCallV (b := 14) (As := [.int v1]) (rest := []) hC hT rfl k_X8_chain_50.1 _ _ k_X8_chain_50.2 (by decide) (by rfl) (by rfl) (by rfl) (Nat.le_of_ble_eq_true rfl) (by decide) (J_X8_change_14 C.2.2.1 C.1 v1 S ew5) ?_
    refine aRun_ok hC hT 1 (cf' := (27, [(0, .ref 14), (1, .int v1)], [.int (1021 : Int32), .int w4], LAY, S)) (by rfl) ?_
    obtain ⟨w6, ew7, hf⟩ := aBnE hf
    refine aCallS (As := [.int w4, .int (1021 : Int32)]) (rest := []) hC hT rfl k_X8_chain_63.1 _ k_X8_chain_63.2 (by rfl) (Nat.le_of_ble_eq_true rfl) (by decide) (J_J9_floorMod_7cf53 C.2.2.1 C.1 N w4 (1021 : Int32) S ew7) ?_
    refine aRun_ok hC hT 7 (cf' := (41, [(2, .int w6), (0, .ref 14), (1, .int v1)], [.int w6, .ref 20, .int v1, .ref 21], LAY, S)) (by rfl) ?_
    obtain ⟨w8, ew9, hf⟩ := aLetE hf
    refine aCallS (As := [.ref 20, .int w6]) (rest := [.int v1, .ref 21]) hC hT rfl k_X8_chain_37.1 _ k_X8_chain_37.2 (by rfl) (Nat.le_of_ble_eq_true rfl) (by decide) (J_X6_at_20 C.2.2.1 C.1 w6 S ew9) ?_
    obtain ⟨w10, ew11, hf⟩ := aLetE hf
    refine aCallS (As := [.ref 21, .int v1, .int w8]) (rest := []) hC hT rfl k_X8_chain_149.1 _ k_X8_chain_149.2 (by rfl) (Nat.le_of_ble_eq_true rfl) (by decide) (J_X6_set_21 C.2.2.1 C.1 v1 w8 S ew11) ?_
    refine aRun_ok hC hT 4 (cf' := (53, [(2, .int w6), (0, .ref 14), (1, .int v1)], [.int v1, .int w6, .ref 20], LAY, w10)) (by rfl) ?_
    obtain ⟨w12, ew13, hf⟩ := aLetE hf
    refine aCallS (As := [.ref 20, .int w6, .int v1]) (rest := []) hC hT rfl k_X8_chain_149.1 _ k_X8_chain_149.2 (by rfl) (Nat.le_of_ble_eq_true rfl) (by decide) (J_X6_set_20 C.2.2.1 C.1 w6 v1 w10 ew13) ?_
    refine aRun_ok hC hT 2 (cf' := (15, [(1, .int (v1 + ((-1) : Int32))), (2, .int w6), (0, .ref 14)], [], LAY, w12)) (by rfl) ?_
    refine aLocs [2, 0] (lv' := [(0, .ref 14), (1, .int (v1 + ((-1) : Int32)))]) rfl ?_
    exact hrec15 (v1 + ((-1) : Int32)) w12 hf
def X8_chain_14_l15 (N : Nat) : Nat → Int32 → aSt → Option (aSt)
  | 0 => fun _ _ => none
  | n + 1 => X8_chain_14_b15 N (X8_chain_14_l15 N n)
theorem X8_chain_14_l15_ok {C : aC} {N : Nat} (hC : aCx C M_X8_chain) {r : aSt} (hF : aFin C none LAY r 0 0) : ∀ (n : Nat) (v1 : Int32) (S : aSt), X8_chain_14_l15 N n v1 S = (some r) → aX C M_X8_chain 0 0 (15, [(0, .ref 14), (1, .int v1)], [], LAY, S)
  | 0, _, _,  h => nomatch (show (none : Option (aSt)) = some _ from h)
  | n + 1, v1, S,  h => X8_chain_14_b15_ok hC hF (fun v1 S h => X8_chain_14_l15_ok hC hF n v1 S h) v1 S h
def X8_chain_14 (N : Nat) (S : aSt) : Option (aSt) := (Option.bind (J7_fill_53178_20 N ((-1) : Int32) S) (fun w1 => (X8_chain_14_l15 N N ((w1.1 14 0) - (1 : Int32)) w1)))
set_option maxHeartbeats 4000000 in
set_option maxRecDepth 100000 in
theorem J_X8_chain_14 (l : Launch) (g : aWg) (N : Nat) (S : aSt) {r : aSt} (hf : X8_chain_14 N S = (some r)) : aJ l g yX8_chain M_X8_chain [.ref 14] LAY S none LAY r 0 0 := by
  refine aJ_of (by decide +kernel) rfl (Nat.le_of_ble_eq_true rfl) (fun h => nomatch h) ?_
  intro C hg hl hC hz hF
  subst hg; subst hl
  have hT := ok_X8_chain
  unfold X8_chain_14 at hf
  show aX C M_X8_chain 0 0 (0, [(0, .ref 14)], [], LAY, S)
  refine aRun_ok hC hT 3 (cf' := (5, [(0, .ref 14)], [.int ((-1) : Int32), .ref 20], LAY, S)) (by rfl) ?_
  obtain ⟨w1, ew2, hf⟩ := aBnE hf
  refine aCallS (As := [.ref 20, .int ((-1) : Int32)]) (rest := []) hC hT rfl k_X8_chain_153.1 _ k_X8_chain_153.2 (by rfl) (Nat.le_of_ble_eq_true rfl) (by decide) (J_J7_fill_53178_20 C.2.2.1 C.1 N ((-1) : Int32) S ew2) ?_
  refine aRun_ok hC hT 5 (cf' := (15, [(1, .int ((w1.1 14 0) - (1 : Int32))), (0, .ref 14)], [], LAY, w1)) (by rfl) ?_
  refine aLocs [1, 0] (lv' := [(0, .ref 14), (1, .int ((w1.1 14 0) - (1 : Int32)))]) rfl ?_
  exact X8_chain_14_l15_ok hC hF N ((w1.1 14 0) - (1 : Int32)) w1 hf
def X2_hasEntryOn_8_b2 (N : Nat) (S : aSt) (rec2 : Int32 → Int32 → Option (Int32)) (v1 : Int32) (v2 : Int32) : Option (Int32) := (if (S.1 8 0) ≤ v2 then some ((0 : Int32)) else (aLet (X2_told_8 v2 (4 : Int32) S) (fun w2 => (if w2 = v1 then some ((1 : Int32)) else (rec2 v1 (v2 + (1 : Int32)))))))
set_option maxHeartbeats 4000000 in
set_option maxRecDepth 100000 in
theorem X2_hasEntryOn_8_b2_ok {C : aC} {N : Nat} {S : aSt} {rec2 : Int32 → Int32 → Option (Int32)} (hC : aCx C M_X2_hasEntryOn) {r : Int32} (hF : aFin C (some (.int r)) LAY S 0 0) (hrec2 : ∀ (v1 : Int32) (v2 : Int32), rec2 v1 v2 = (some r) → aX C M_X2_hasEntryOn 0 0 (2, [(0, .ref 8), (1, .int v1), (2, .int v2)], [], LAY, S)) (v1 : Int32) (v2 : Int32) (hf : X2_hasEntryOn_8_b2 N S rec2 v1 v2 = (some r)) : aX C M_X2_hasEntryOn 0 0 (2, [(0, .ref 8), (1, .int v1), (2, .int v2)], [], LAY, S) := by
  have hT := ok_X2_hasEntryOn
  unfold X2_hasEntryOn_8_b2 at hf
  refine aRun_ok hC hT 3 (cf' := (7, [(0, .ref 8), (1, .int v1), (2, .int v2)], [.int (S.1 8 0), .int v2], LAY, S)) (by rfl) ?_
  refine aCmp_ge hC hT (tgt := 28) rfl (by decide) (fun hc1 => ?_) (fun hc1 => ?_)
  · have hf := aIfT hf hc1
    refine aRun_ok hC hT 1 (cf' := (29, [(0, .ref 8), (1, .int v1), (2, .int v2)], [.int (0 : Int32)], LAY, S)) (by rfl) ?_
    have e9 := Option.some.inj hf; subst e9
    exact aRetB hC hT hF rfl (Or.inl rfl) rfl
  · have hf := aIfF hf hc1
    refine aRun_ok hC hT 3 (cf' := (13, [(0, .ref 8), (1, .int v1), (2, .int v2)], [.int (4 : Int32), .int v2, .ref 8], LAY, S)) (by rfl) ?_
    obtain ⟨w2, ew3, hf⟩ := aLetE hf
    refine aCallV (b := 8) (As := [.int v2, .int (4 : Int32)]) (rest := []) hC hT rfl k_X2_hasEntryOn_53.1 _ _ k_X2_hasEntryOn_53.2 (by decide) (by rfl) (by rfl) (by rfl) (Nat.le_of_ble_eq_true rfl) (by decide) (J_X2_told_8 C.2.2.1 C.1 v2 (4 : Int32) S ew3) ?_
    refine aRun_ok hC hT 1 (cf' := (17, [(0, .ref 8), (1, .int v1), (2, .int v2)], [.int v1, .int w2], LAY, S)) (by rfl) ?_
    refine aCmp_ne hC hT (tgt := 22) rfl (by decide) (fun hc4 => ?_) (fun hc4 => ?_)
    · have hf := aIfF hf hc4
      refine aRun_ok hC hT 2 (cf' := (2, [(2, .int (v2 + (1 : Int32))), (0, .ref 8), (1, .int v1)], [], LAY, S)) (by rfl) ?_
      refine aLocs [1, 2, 0] (lv' := [(0, .ref 8), (1, .int v1), (2, .int (v2 + (1 : Int32)))]) rfl ?_
      exact hrec2 v1 (v2 + (1 : Int32)) hf
    · have hf := aIfT hf hc4
      refine aRun_ok hC hT 1 (cf' := (21, [(0, .ref 8), (1, .int v1), (2, .int v2)], [.int (1 : Int32)], LAY, S)) (by rfl) ?_
      have e9 := Option.some.inj hf; subst e9
      exact aRetB hC hT hF rfl (Or.inr rfl) rfl
def X2_hasEntryOn_8_l2 (N : Nat) (S : aSt) : Nat → Int32 → Int32 → Option (Int32)
  | 0 => fun _ _ => none
  | n + 1 => X2_hasEntryOn_8_b2 N S (X2_hasEntryOn_8_l2 N S n)
theorem X2_hasEntryOn_8_l2_ok {C : aC} {N : Nat} {S : aSt} (hC : aCx C M_X2_hasEntryOn) {r : Int32} (hF : aFin C (some (.int r)) LAY S 0 0) : ∀ (n : Nat) (v1 : Int32) (v2 : Int32), X2_hasEntryOn_8_l2 N S n v1 v2 = (some r) → aX C M_X2_hasEntryOn 0 0 (2, [(0, .ref 8), (1, .int v1), (2, .int v2)], [], LAY, S)
  | 0, _, _,  h => nomatch (show (none : Option (Int32)) = some _ from h)
  | n + 1, v1, v2,  h => X2_hasEntryOn_8_b2_ok hC hF (fun v1 v2 h => X2_hasEntryOn_8_l2_ok hC hF n v1 v2 h) v1 v2 h
def X2_hasEntryOn_8 (N : Nat) (a1 : Int32) (S : aSt) : Option (Int32) := (X2_hasEntryOn_8_l2 N S N a1 (0 : Int32))
set_option maxHeartbeats 4000000 in
set_option maxRecDepth 100000 in
theorem J_X2_hasEntryOn_8 (l : Launch) (g : aWg) (N : Nat) (a1 : Int32) (S : aSt) {r : Int32} (hf : X2_hasEntryOn_8 N a1 S = (some r)) : aJ l g yX2_hasEntryOn M_X2_hasEntryOn [.ref 8, .int a1] LAY S (some (.int r)) LAY S 0 0 := by
  refine aJ_of (by decide +kernel) rfl (Nat.le_of_ble_eq_true rfl) (fun h => nomatch h) ?_
  intro C hg hl hC hz hF
  subst hg; subst hl
  have hT := ok_X2_hasEntryOn
  unfold X2_hasEntryOn_8 at hf
  show aX C M_X2_hasEntryOn 0 0 (0, [(0, .ref 8), (1, .int a1)], [], LAY, S)
  refine aRun_ok hC hT 2 (cf' := (2, [(2, .int (0 : Int32)), (0, .ref 8), (1, .int a1)], [], LAY, S)) (by rfl) ?_
  refine aLocs [1, 2, 0] (lv' := [(0, .ref 8), (1, .int a1), (2, .int (0 : Int32))]) rfl ?_
  exact X2_hasEntryOn_8_l2_ok hC hF N a1 (0 : Int32) hf
def X6_at_1001 (a1 : Int32) : Int32 := (if a1 < (0 : Int32) then (0 : Int32) else (if (7 : Int32) ≤ a1 then (0 : Int32) else (aTENS.getD a1.toNatClampNeg (0 : Int32))))
set_option maxHeartbeats 4000000 in
set_option maxRecDepth 100000 in
theorem J_X6_at_1001 (l : Launch) (g : aWg) (a1 : Int32) (S : aSt) {r : Int32} (hf : X6_at_1001 a1 = r) : aJ l g yX6_at M_X6_at [.ref 1001, .int a1] LAY S (some (.int r)) LAY S 0 0 := by
  refine aJ_of (by decide +kernel) rfl (Nat.le_of_ble_eq_true rfl) (fun h => nomatch h) ?_
  intro C hg hl hC hz hF
  subst hg; subst hl
  have hT := ok_X6_at
  unfold X6_at_1001 at hf
  show aX C M_X6_at 0 0 (0, [(0, .ref 1001), (1, .int a1)], [], LAY, S)
  refine aRun_ok hC hT 1 (cf' := (1, [(0, .ref 1001), (1, .int a1)], [.int a1], LAY, S)) (by rfl) ?_
  refine aIf_lt hC hT (tgt := 16) rfl (by decide) (fun hc1 => ?_) (fun hc1 => ?_)
  · have hf := aIfT hf hc1
    refine aRun_ok hC hT 1 (cf' := (17, [(0, .ref 1001), (1, .int a1)], [.int (0 : Int32)], LAY, S)) (by rfl) ?_
    subst hf
    exact aRetI hC hT hF rfl rfl
  · have hf := aIfF hf hc1
    refine aRun_ok hC hT 3 (cf' := (7, [(0, .ref 1001), (1, .int a1)], [.int (7 : Int32), .int a1], LAY, S)) (by rfl) ?_
    refine aCmp_ge hC hT (tgt := 16) rfl (by decide) (fun hc2 => ?_) (fun hc2 => ?_)
    · have hf := aIfT hf hc2
      refine aRun_ok hC hT 1 (cf' := (17, [(0, .ref 1001), (1, .int a1)], [.int (0 : Int32)], LAY, S)) (by rfl) ?_
      subst hf
      exact aRetI hC hT hF rfl rfl
    · have hf := aIfF hf hc2
      refine aRun_ok hC hT 2 (cf' := (12, [(0, .ref 1001), (1, .int a1)], [.int a1, .ref 1001], LAY, S)) (by rfl) ?_
      refine aIaldT hC hT rfl (aIx_of hc1 hc2 (by decide)) ?_
      refine aRun_ok hC hT 1 (cf' := (17, [(0, .ref 1001), (1, .int a1)], [.int (aTENS.getD a1.toNatClampNeg (0 : Int32))], LAY, S)) (by rfl) ?_
      subst hf
      exact aRetI hC hT hF rfl rfl
