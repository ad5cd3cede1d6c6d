def X6_set_23 (a1 : Int32) (a2 : Int32) (S : aSt) : aSt := (if a1 < (0 : Int32) then S else (if (157 : Int32) ≤ a1 then S else (aA S 23 (upd (S.2.2 23) a1.toNatClampNeg a2))))
set_option maxHeartbeats 4000000 in
set_option maxRecDepth 100000 in
theorem J_X6_set_23 (l : Launch) (g : aWg) (a1 : Int32) (a2 : Int32) (S : aSt) {r : aSt} (hf : X6_set_23 a1 a2 S = r) : aJ l g yX6_set M_X6_set [.ref 23, .int a1, .int a2] LAY S none LAY r 0 0 := by
  refine aJ_of (by decide +kernel) rfl (Nat.le_of_ble_eq_true rfl) (fun h => nomatch h) ?_
  intro C hg hl hC hz hF
  subst hg; subst hl
  have hT := ok_X6_set
  unfold X6_set_23 at hf
  show aX C M_X6_set 0 0 (0, [(0, .ref 23), (1, .int a1), (2, .int a2)], [], LAY, S)
  refine aRun_ok hC hT 1 (cf' := (1, [(0, .ref 23), (1, .int a1), (2, .int a2)], [.int a1], LAY, S)) (by rfl) ?_
  refine aIf_lt hC hT (tgt := 14) rfl (by decide) (fun hc1 => ?_) (fun hc1 => ?_)
  · have hf := aIfT hf hc1
    subst hf
    exact aRetV hC hT hF rfl rfl
  · have hf := aIfF hf hc1
    refine aRun_ok hC hT 3 (cf' := (7, [(0, .ref 23), (1, .int a1), (2, .int a2)], [.int (157 : Int32), .int a1], LAY, S)) (by rfl) ?_
    refine aCmp_ge hC hT (tgt := 14) rfl (by decide) (fun hc2 => ?_) (fun hc2 => ?_)
    · have hf := aIfT hf hc2
      subst hf
      exact aRetV hC hT hF rfl rfl
    · have hf := aIfF hf hc2
      refine aRun_ok hC hT 3 (cf' := (13, [(0, .ref 23), (1, .int a1), (2, .int a2)], [.int a2, .int a1, .ref 23], LAY, S)) (by rfl) ?_
      refine aIast hC hT rfl (by decide) (by rfl) (aIx_of hc1 hc2 (by decide)) ?_
      subst hf
      exact aRetV hC hT hF rfl rfl
def X6_at_19 (a1 : Int32) (S : aSt) : Int32 := (if a1 < (0 : Int32) then (0 : Int32) else (if (1921 : Int32) ≤ a1 then (0 : Int32) else ((S.2.2 19) a1.toNatClampNeg)))
set_option maxHeartbeats 4000000 in
set_option maxRecDepth 100000 in
theorem J_X6_at_19 (l : Launch) (g : aWg) (a1 : Int32) (S : aSt) {r : Int32} (hf : X6_at_19 a1 S = r) : aJ l g yX6_at M_X6_at [.ref 19, .int a1] LAY S (some (.int r)) LAY S 0 0 := by
  refine aJ_of (by decide +kernel) rfl (Nat.le_of_ble_eq_true rfl) (fun h => nomatch h) ?_
  intro C hg hl hC hz hF
  subst hg; subst hl
  have hT := ok_X6_at
  unfold X6_at_19 at hf
  show aX C M_X6_at 0 0 (0, [(0, .ref 19), (1, .int a1)], [], LAY, S)
  refine aRun_ok hC hT 1 (cf' := (1, [(0, .ref 19), (1, .int a1)], [.int a1], LAY, S)) (by rfl) ?_
  refine aIf_lt hC hT (tgt := 16) rfl (by decide) (fun hc1 => ?_) (fun hc1 => ?_)
  · have hf := aIfT hf hc1
    refine aRun_ok hC hT 1 (cf' := (17, [(0, .ref 19), (1, .int a1)], [.int (0 : Int32)], LAY, S)) (by rfl) ?_
    subst hf
    exact aRetI hC hT hF rfl rfl
  · have hf := aIfF hf hc1
    refine aRun_ok hC hT 3 (cf' := (7, [(0, .ref 19), (1, .int a1)], [.int (1921 : Int32), .int a1], LAY, S)) (by rfl) ?_
    refine aCmp_ge hC hT (tgt := 16) rfl (by decide) (fun hc2 => ?_) (fun hc2 => ?_)
    · have hf := aIfT hf hc2
      refine aRun_ok hC hT 1 (cf' := (17, [(0, .ref 19), (1, .int a1)], [.int (0 : Int32)], LAY, S)) (by rfl) ?_
      subst hf
      exact aRetI hC hT hF rfl rfl
    · have hf := aIfF hf hc2
      refine aRun_ok hC hT 2 (cf' := (12, [(0, .ref 19), (1, .int a1)], [.int a1, .ref 19], LAY, S)) (by rfl) ?_
      refine aIald hC hT rfl (by decide) (by rfl) (aIx_of hc1 hc2 (by decide)) ?_
      refine aRun_ok hC hT 1 (cf' := (17, [(0, .ref 19), (1, .int a1)], [.int ((S.2.2 19) a1.toNatClampNeg)], LAY, S)) (by rfl) ?_
      subst hf
      exact aRetI hC hT hF rfl rfl
def X8_weight_14 (a1 : Int32) (S : aSt) : Int32 := (aLet (X6_at_19 a1 S) (fun w1 => w1))
set_option maxHeartbeats 4000000 in
set_option maxRecDepth 100000 in
theorem J_X8_weight_14 (l : Launch) (g : aWg) (a1 : Int32) (S : aSt) {r : Int32} (hf : X8_weight_14 a1 S = r) : aJ l g yX8_weight M_X8_weight [.ref 14, .int a1] LAY S (some (.int r)) LAY S 0 0 := by
  refine aJ_of (by decide +kernel) rfl (Nat.le_of_ble_eq_true rfl) (fun h => nomatch h) ?_
  intro C hg hl hC hz hF
  subst hg; subst hl
  have hT := ok_X8_weight
  unfold X8_weight_14 at hf
  show aX C M_X8_weight 0 0 (0, [(0, .ref 14), (1, .int a1)], [], LAY, S)
  refine aRun_ok hC hT 3 (cf' := (5, [(0, .ref 14), (1, .int a1)], [.int a1, .ref 19], LAY, S)) (by rfl) ?_
  obtain ⟨w1, ew2, hf⟩ := aLetE hf
  refine aCallS (As := [.ref 19, .int a1]) (rest := []) hC hT rfl k_X8_weight_37.1 _ k_X8_weight_37.2 (by rfl) (Nat.le_of_ble_eq_true rfl) (by decide) (J_X6_at_19 C.2.2.1 C.1 a1 S ew2) ?_
  subst hf
  exact aRetI hC hT hF rfl rfl
def X6_at_15 (a1 : Int32) (S : aSt) : Int32 := (if a1 < (0 : Int32) then (0 : Int32) else (if (1921 : Int32) ≤ a1 then (0 : Int32) else ((S.2.2 15) a1.toNatClampNeg)))
set_option maxHeartbeats 4000000 in
set_option maxRecDepth 100000 in
theorem J_X6_at_15 (l : Launch) (g : aWg) (a1 : Int32) (S : aSt) {r : Int32} (hf : X6_at_15 a1 S = r) : aJ l g yX6_at M_X6_at [.ref 15, .int a1] LAY S (some (.int r)) LAY S 0 0 := by
  refine aJ_of (by decide +kernel) rfl (Nat.le_of_ble_eq_true rfl) (fun h => nomatch h) ?_
  intro C hg hl hC hz hF
  subst hg; subst hl
  have hT := ok_X6_at
  unfold X6_at_15 at hf
  show aX C M_X6_at 0 0 (0, [(0, .ref 15), (1, .int a1)], [], LAY, S)
  refine aRun_ok hC hT 1 (cf' := (1, [(0, .ref 15), (1, .int a1)], [.int a1], LAY, S)) (by rfl) ?_
  refine aIf_lt hC hT (tgt := 16) rfl (by decide) (fun hc1 => ?_) (fun hc1 => ?_)
  · have hf := aIfT hf hc1
    refine aRun_ok hC hT 1 (cf' := (17, [(0, .ref 15), (1, .int a1)], [.int (0 : Int32)], LAY, S)) (by rfl) ?_
    subst hf
    exact aRetI hC hT hF rfl rfl
  · have hf := aIfF hf hc1
    refine aRun_ok hC hT 3 (cf' := (7, [(0, .ref 15), (1, .int a1)], [.int (1921 : Int32), .int a1], LAY, S)) (by rfl) ?_
    refine aCmp_ge hC hT (tgt := 16) rfl (by decide) (fun hc2 => ?_) (fun hc2 => ?_)
    · have hf := aIfT hf hc2
      refine aRun_ok hC hT 1 (cf' := (17, [(0, .ref 15), (1, .int a1)], [.int (0 : Int32)], LAY, S)) (by rfl) ?_
      subst hf
      exact aRetI hC hT hF rfl rfl
    · have hf := aIfF hf hc2
      refine aRun_ok hC hT 2 (cf' := (12, [(0, .ref 15), (1, .int a1)], [.int a1, .ref 15], LAY, S)) (by rfl) ?_
      refine aIald hC hT rfl (by decide) (by rfl) (aIx_of hc1 hc2 (by decide)) ?_
      refine aRun_ok hC hT 1 (cf' := (17, [(0, .ref 15), (1, .int a1)], [.int ((S.2.2 15) a1.toNatClampNeg)], LAY, S)) (by rfl) ?_
      subst hf
      exact aRetI hC hT hF rfl rfl
def X8_kind_14 (a1 : Int32) (S : aSt) : Int32 := (aLet (X6_at_15 a1 S) (fun w1 => w1))
set_option maxHeartbeats 4000000 in
set_option maxRecDepth 100000 in
theorem J_X8_kind_14 (l : Launch) (g : aWg) (a1 : Int32) (S : aSt) {r : Int32} (hf : X8_kind_14 a1 S = r) : aJ l g yX8_kind M_X8_kind [.ref 14, .int a1] LAY S (some (.int r)) LAY S 0 0 := by
  refine aJ_of (by decide +kernel) rfl (Nat.le_of_ble_eq_true rfl) (fun h => nomatch h) ?_
  intro C hg hl hC hz hF
  subst hg; subst hl
  have hT := ok_X8_kind
  unfold X8_kind_14 at hf
  show aX C M_X8_kind 0 0 (0, [(0, .ref 14), (1, .int a1)], [], LAY, S)
  refine aRun_ok hC hT 3 (cf' := (5, [(0, .ref 14), (1, .int a1)], [.int a1, .ref 15], LAY, S)) (by rfl) ?_
  obtain ⟨w1, ew2, hf⟩ := aLetE hf
  refine aCallS (As := [.ref 15, .int a1]) (rest := []) hC hT rfl k_X8_kind_37.1 _ k_X8_kind_37.2 (by rfl) (Nat.le_of_ble_eq_true rfl) (by decide) (J_X6_at_15 C.2.2.1 C.1 a1 S ew2) ?_
  subst hf
  exact aRetI hC hT hF rfl rfl
def X6_at_16 (a1 : Int32) (S : aSt) : Int32 := (if a1 < (0 : Int32) then (0 : Int32) else (if (1921 : Int32) ≤ a1 then (0 : Int32) else ((S.2.2 16) a1.toNatClampNeg)))
set_option maxHeartbeats 4000000 in
set_option maxRecDepth 100000 in
theorem J_X6_at_16 (l : Launch) (g : aWg) (a1 : Int32) (S : aSt) {r : Int32} (hf : X6_at_16 a1 S = r) : aJ l g yX6_at M_X6_at [.ref 16, .int a1] LAY S (some (.int r)) LAY S 0 0 := by
  refine aJ_of (by decide +kernel) rfl (Nat.le_of_ble_eq_true rfl) (fun h => nomatch h) ?_
  intro C hg hl hC hz hF
  subst hg; subst hl
  have hT := ok_X6_at
  unfold X6_at_16 at hf
  show aX C M_X6_at 0 0 (0, [(0, .ref 16), (1, .int a1)], [], LAY, S)
  refine aRun_ok hC hT 1 (cf' := (1, [(0, .ref 16), (1, .int a1)], [.int a1], LAY, S)) (by rfl) ?_
  refine aIf_lt hC hT (tgt := 16) rfl (by decide) (fun hc1 => ?_) (fun hc1 => ?_)
  · have hf := aIfT hf hc1
    refine aRun_ok hC hT 1 (cf' := (17, [(0, .ref 16), (1, .int a1)], [.int (0 : Int32)], LAY, S)) (by rfl) ?_
    subst hf
    exact aRetI hC hT hF rfl rfl
  · have hf := aIfF hf hc1
    refine aRun_ok hC hT 3 (cf' := (7, [(0, .ref 16), (1, .int a1)], [.int (1921 : Int32), .int a1], LAY, S)) (by rfl) ?_
    refine aCmp_ge hC hT (tgt := 16) rfl (by decide) (fun hc2 => ?_) (fun hc2 => ?_)
    · have hf := aIfT hf hc2
      refine aRun_ok hC hT 1 (cf' := (17, [(0, .ref 16), (1, .int a1)], [.int (0 : Int32)], LAY, S)) (by rfl) ?_
      subst hf
      exact aRetI hC hT hF rfl rfl
    · have hf := aIfF hf hc2
      refine aRun_ok hC hT 2 (cf' := (12, [(0, .ref 16), (1, .int a1)], [.int a1, .ref 16], LAY, S)) (by rfl) ?_
      refine aIald hC hT rfl (by decide) (by rfl) (aIx_of hc1 hc2 (by decide)) ?_
      refine aRun_ok hC hT 1 (cf' := (17, [(0, .ref 16), (1, .int a1)], [.int ((S.2.2 16) a1.toNatClampNeg)], LAY, S)) (by rfl) ?_
      subst hf
      exact aRetI hC hT hF rfl rfl
def X8_place_14 (a1 : Int32) (S : aSt) : Int32 := (aLet (X6_at_16 a1 S) (fun w1 => w1))
set_option maxHeartbeats 4000000 in
set_option maxRecDepth 100000 in
theorem J_X8_place_14 (l : Launch) (g : aWg) (a1 : Int32) (S : aSt) {r : Int32} (hf : X8_place_14 a1 S = r) : aJ l g yX8_place M_X8_place [.ref 14, .int a1] LAY S (some (.int r)) LAY S 0 0 := by
  refine aJ_of (by decide +kernel) rfl (Nat.le_of_ble_eq_true rfl) (fun h => nomatch h) ?_
  intro C hg hl hC hz hF
  subst hg; subst hl
  have hT := ok_X8_place
  unfold X8_place_14 at hf
  show aX C M_X8_place 0 0 (0, [(0, .ref 14), (1, .int a1)], [], LAY, S)
  refine aRun_ok hC hT 3 (cf' := (5, [(0, .ref 14), (1, .int a1)], [.int a1, .ref 16], LAY, S)) (by rfl) ?_
  obtain ⟨w1, ew2, hf⟩ := aLetE hf
  refine aCallS (As := [.ref 16, .int a1]) (rest := []) hC hT rfl k_X8_place_37.1 _ k_X8_place_37.2 (by rfl) (Nat.le_of_ble_eq_true rfl) (by decide) (J_X6_at_16 C.2.2.1 C.1 a1 S ew2) ?_
  subst hf
  exact aRetI hC hT hF rfl rfl
def X8_pageOf_14 (a1 : Int32) (S : aSt) : Int32 := (aLet (X8_kind_14 a1 S) (fun w1 => (if w1 = (5 : Int32) then ((-1) : Int32) else (if w1 = (6 : Int32) then (aLet (X8_place_14 a1 S) (fun w9 => w9)) else (aLet (X8_place_14 a1 S) (fun w3 => (aLet (X2_told_8 w3 (4 : Int32) S) (fun w5 => w5))))))))
set_option maxHeartbeats 4000000 in
set_option maxRecDepth 100000 in
theorem J_X8_pageOf_14 (l : Launch) (g : aWg) (a1 : Int32) (S : aSt) {r : Int32} (hf : X8_pageOf_14 a1 S = r) : aJ l g yX8_pageOf M_X8_pageOf [.ref 14, .int a1] LAY S (some (.int r)) LAY S 0 0 := by
  refine aJ_of (by decide +kernel) rfl (Nat.le_of_ble_eq_true rfl) (fun h => nomatch h) ?_
  intro C hg hl hC hz hF
  subst hg; subst hl
  have hT := ok_X8_pageOf
  unfold X8_pageOf_14 at hf
  show aX C M_X8_pageOf 0 0 (0, [(0, .ref 14), (1, .int a1)], [], LAY, S)
  refine aRun_ok hC hT 2 (cf' := (2, [(0, .ref 14), (1, .int a1)], [.int a1, .ref 14], LAY, S)) (by rfl) ?_
  obtain ⟨w1, ew2, hf⟩ := aLetE hf
  refine aCallV (b := 14) (As := [.int a1]) (rest := []) hC hT rfl k_X8_pageOf_43.1 _ _ k_X8_pageOf_43.2 (by decide) (by rfl) (by rfl) (by rfl) (Nat.le_of_ble_eq_true rfl) (by decide) (J_X8_kind_14 C.2.2.1 C.1 a1 S ew2) ?_
  rcases aIfE hf with ⟨hc7, hf⟩ | ⟨hc7, hf⟩
  · refine aLsw hC hT (off := 27) (tgt := 32) rfl (by rfl) (by rw [hc7]; rfl) (by decide) ?_
    refine aRun_ok hC hT 1 (cf' := (33, [(0, .ref 14), (1, .int a1)], [.int ((-1) : Int32)], LAY, S)) (by rfl) ?_
    subst hf
    exact aRetI hC hT hF rfl rfl
  · rcases aIfE hf with ⟨hc8, hf⟩ | ⟨hc8, hf⟩
    · refine aLsw hC hT (off := 29) (tgt := 34) rfl (by rfl) (by refine (lv_osw hc7 (by decide)).trans ?_; rw [hc8]; rfl) (by decide) ?_
      refine aRun_ok hC hT 2 (cf' := (36, [(0, .ref 14), (1, .int a1)], [.int a1, .ref 14], LAY, S)) (by rfl) ?_
      obtain ⟨w9, ew10, hf⟩ := aLetE hf
      refine aCallV (b := 14) (As := [.int a1]) (rest := []) hC hT rfl k_X8_pageOf_47.1 _ _ k_X8_pageOf_47.2 (by decide) (by rfl) (by rfl) (by rfl) (Nat.le_of_ble_eq_true rfl) (by decide) (J_X8_place_14 C.2.2.1 C.1 a1 S ew10) ?_
      subst hf
      exact aRetI hC hT hF rfl rfl
    · refine aLsw hC hT (off := 35) (tgt := 40) rfl (by rfl) (by refine (lv_osw hc7 (by decide)).trans ?_; refine (lv_osw hc8 (by decide)).trans ?_; rfl) (by decide) ?_
      refine aRun_ok hC hT 4 (cf' := (46, [(0, .ref 14), (1, .int a1)], [.int a1, .ref 14, .ref 8], LAY, S)) (by rfl) ?_
      obtain ⟨w3, ew4, hf⟩ := aLetE hf
      refine aCallV (b := 14) (As := [.int a1]) (rest := [.ref 8]) hC hT rfl k_X8_pageOf_47.1 _ _ k_X8_pageOf_47.2 (by decide) (by rfl) (by rfl) (by rfl) (Nat.le_of_ble_eq_true rfl) (by decide) (J_X8_place_14 C.2.2.1 C.1 a1 S ew4) ?_
      refine aRun_ok hC hT 1 (cf' := (50, [(0, .ref 14), (1, .int a1)], [.int (4 : Int32), .int w3, .ref 8], LAY, S)) (by rfl) ?_
      obtain ⟨w5, ew6, hf⟩ := aLetE hf
      refine aCallV (b := 8) (As := [.int w3, .int (4 : Int32)]) (rest := []) hC hT rfl k_X8_pageOf_57.1 _ _ k_X8_pageOf_57.2 (by decide) (by rfl) (by rfl) (by rfl) (Nat.le_of_ble_eq_true rfl) (by decide) (J_X2_told_8 C.2.2.1 C.1 w3 (4 : Int32) S ew6) ?_
      subst hf
      exact aRetI hC hT hF rfl rfl
def X2_hasDue_8 (a1 : Int32) (S : aSt) : Int32 := (if a1 < (0 : Int32) then (0 : Int32) else (if (6 : Int32) ≤ a1 then (0 : Int32) else (if ((S.2.2 13) a1.toNatClampNeg) = (0 : Int32) then (0 : Int32) else (1 : Int32))))
set_option maxHeartbeats 4000000 in
set_option maxRecDepth 100000 in
theorem J_X2_hasDue_8 (l : Launch) (g : aWg) (a1 : Int32) (S : aSt) {r : Int32} (hf : X2_hasDue_8 a1 S = r) : aJ l g yX2_hasDue M_X2_hasDue [.ref 8, .int a1] LAY S (some (.int r)) LAY S 0 0 := by
  refine aJ_of (by decide +kernel) rfl (Nat.le_of_ble_eq_true rfl) (fun h => nomatch h) ?_
  intro C hg hl hC hz hF
  subst hg; subst hl
  have hT := ok_X2_hasDue
  unfold X2_hasDue_8 at hf
  show aX C M_X2_hasDue 0 0 (0, [(0, .ref 8), (1, .int a1)], [], LAY, S)
  refine aRun_ok hC hT 1 (cf' := (1, [(0, .ref 8), (1, .int a1)], [.int a1], LAY, S)) (by rfl) ?_
  refine aIf_lt hC hT (tgt := 26) rfl (by decide) (fun hc1 => ?_) (fun hc1 => ?_)
  · have hf := aIfT hf hc1
    refine aRun_ok hC hT 1 (cf' := (27, [(0, .ref 8), (1, .int a1)], [.int (0 : Int32)], LAY, S)) (by rfl) ?_
    subst hf
    exact aRetB hC hT hF rfl (Or.inl rfl) rfl
  · have hf := aIfF hf hc1
    refine aRun_ok hC hT 4 (cf' := (10, [(0, .ref 8), (1, .int a1)], [.int (6 : Int32), .int a1], LAY, S)) (by rfl) ?_
    refine aCmp_ge hC hT (tgt := 26) rfl (by decide) (fun hc2 => ?_) (fun hc2 => ?_)
    · have hf := aIfT hf hc2
      refine aRun_ok hC hT 1 (cf' := (27, [(0, .ref 8), (1, .int a1)], [.int (0 : Int32)], LAY, S)) (by rfl) ?_
      subst hf
      exact aRetB hC hT hF rfl (Or.inl rfl) rfl
    · have hf := aIfF hf hc2
      refine aRun_ok hC hT 3 (cf' := (18, [(0, .ref 8), (1, .int a1)], [.int a1, .ref 13], LAY, S)) (by rfl) ?_
      refine aZald hC hT rfl (by decide) (by rfl) (aIx_of hc1 hc2 (by decide)) ?_
      refine aIf_eq hC hT (tgt := 26) rfl (by decide) (fun hc4 => ?_) (fun hc4 => ?_)
      · have hf := aIfT hf hc4
        refine aRun_ok hC hT 1 (cf' := (27, [(0, .ref 8), (1, .int a1)], [.int (0 : Int32)], LAY, S)) (by rfl) ?_
        subst hf
        exact aRetB hC hT hF rfl (Or.inl rfl) rfl
      · have hf := aIfF hf hc4
        refine aRun_ok hC hT 2 (cf' := (27, [(0, .ref 8), (1, .int a1)], [.int (1 : Int32)], LAY, S)) (by rfl) ?_
        subst hf
        exact aRetB hC hT hF rfl (Or.inr rfl) rfl
def X6_at_24 (a1 : Int32) (S : aSt) : Int32 := (if a1 < (0 : Int32) then (0 : Int32) else (if (6 : Int32) ≤ a1 then (0 : Int32) else ((S.2.2 24) a1.toNatClampNeg)))
set_option maxHeartbeats 4000000 in
set_option maxRecDepth 100000 in
theorem J_X6_at_24 (l : Launch) (g : aWg) (a1 : Int32) (S : aSt) {r : Int32} (hf : X6_at_24 a1 S = r) : aJ l g yX6_at M_X6_at [.ref 24, .int a1] LAY S (some (.int r)) LAY S 0 0 := by
  refine aJ_of (by decide +kernel) rfl (Nat.le_of_ble_eq_true rfl) (fun h => nomatch h) ?_
  intro C hg hl hC hz hF
  subst hg; subst hl
  have hT := ok_X6_at
  unfold X6_at_24 at hf
  show aX C M_X6_at 0 0 (0, [(0, .ref 24), (1, .int a1)], [], LAY, S)
  refine aRun_ok hC hT 1 (cf' := (1, [(0, .ref 24), (1, .int a1)], [.int a1], LAY, S)) (by rfl) ?_
  refine aIf_lt hC hT (tgt := 16) rfl (by decide) (fun hc1 => ?_) (fun hc1 => ?_)
  · have hf := aIfT hf hc1
    refine aRun_ok hC hT 1 (cf' := (17, [(0, .ref 24), (1, .int a1)], [.int (0 : Int32)], LAY, S)) (by rfl) ?_
    subst hf
    exact aRetI hC hT hF rfl rfl
  · have hf := aIfF hf hc1
    refine aRun_ok hC hT 3 (cf' := (7, [(0, .ref 24), (1, .int a1)], [.int (6 : Int32), .int a1], LAY, S)) (by rfl) ?_
    refine aCmp_ge hC hT (tgt := 16) rfl (by decide) (fun hc2 => ?_) (fun hc2 => ?_)
    · have hf := aIfT hf hc2
      refine aRun_ok hC hT 1 (cf' := (17, [(0, .ref 24), (1, .int a1)], [.int (0 : Int32)], LAY, S)) (by rfl) ?_
      subst hf
      exact aRetI hC hT hF rfl rfl
    · have hf := aIfF hf hc2
      refine aRun_ok hC hT 2 (cf' := (12, [(0, .ref 24), (1, .int a1)], [.int a1, .ref 24], LAY, S)) (by rfl) ?_
      refine aIald hC hT rfl (by decide) (by rfl) (aIx_of hc1 hc2 (by decide)) ?_
      refine aRun_ok hC hT 1 (cf' := (17, [(0, .ref 24), (1, .int a1)], [.int ((S.2.2 24) a1.toNatClampNeg)], LAY, S)) (by rfl) ?_
      subst hf
      exact aRetI hC hT hF rfl rfl
def X6_at_12 (a1 : Int32) (S : aSt) : Int32 := (if a1 < (0 : Int32) then (0 : Int32) else (if (6 : Int32) ≤ a1 then (0 : Int32) else ((S.2.2 12) a1.toNatClampNeg)))
set_option maxHeartbeats 4000000 in
set_option maxRecDepth 100000 in
theorem J_X6_at_12 (l : Launch) (g : aWg) (a1 : Int32) (S : aSt) {r : Int32} (hf : X6_at_12 a1 S = r) : aJ l g yX6_at M_X6_at [.ref 12, .int a1] LAY S (some (.int r)) LAY S 0 0 := by
  refine aJ_of (by decide +kernel) rfl (Nat.le_of_ble_eq_true rfl) (fun h => nomatch h) ?_
  intro C hg hl hC hz hF
  subst hg; subst hl
  have hT := ok_X6_at
  unfold X6_at_12 at hf
  show aX C M_X6_at 0 0 (0, [(0, .ref 12), (1, .int a1)], [], LAY, S)
  refine aRun_ok hC hT 1 (cf' := (1, [(0, .ref 12), (1, .int a1)], [.int a1], LAY, S)) (by rfl) ?_
  refine aIf_lt hC hT (tgt := 16) rfl (by decide) (fun hc1 => ?_) (fun hc1 => ?_)
  · have hf := aIfT hf hc1
    refine aRun_ok hC hT 1 (cf' := (17, [(0, .ref 12), (1, .int a1)], [.int (0 : Int32)], LAY, S)) (by rfl) ?_
    subst hf
    exact aRetI hC hT hF rfl rfl
  · have hf := aIfF hf hc1
    refine aRun_ok hC hT 3 (cf' := (7, [(0, .ref 12), (1, .int a1)], [.int (6 : Int32), .int a1], LAY, S)) (by rfl) ?_
    refine aCmp_ge hC hT (tgt := 16) rfl (by decide) (fun hc2 => ?_) (fun hc2 => ?_)
    · have hf := aIfT hf hc2
      refine aRun_ok hC hT 1 (cf' := (17, [(0, .ref 12), (1, .int a1)], [.int (0 : Int32)], LAY, S)) (by rfl) ?_
      subst hf
      exact aRetI hC hT hF rfl rfl
    · have hf := aIfF hf hc2
      refine aRun_ok hC hT 2 (cf' := (12, [(0, .ref 12), (1, .int a1)], [.int a1, .ref 12], LAY, S)) (by rfl) ?_
      refine aIald hC hT rfl (by decide) (by rfl) (aIx_of hc1 hc2 (by decide)) ?_
      refine aRun_ok hC hT 1 (cf' := (17, [(0, .ref 12), (1, .int a1)], [.int ((S.2.2 12) a1.toNatClampNeg)], LAY, S)) (by rfl) ?_
      subst hf
      exact aRetI hC hT hF rfl rfl
def X2_dueOf_8 (a1 : Int32) (S : aSt) : Int32 := (aLet (X6_at_12 a1 S) (fun w1 => w1))
set_option maxHeartbeats 4000000 in
set_option maxRecDepth 100000 in
theorem J_X2_dueOf_8 (l : Launch) (g : aWg) (a1 : Int32) (S : aSt) {r : Int32} (hf : X2_dueOf_8 a1 S = r) : aJ l g yX2_dueOf M_X2_dueOf [.ref 8, .int a1] LAY S (some (.int r)) LAY S 0 0 := by
  refine aJ_of (by decide +kernel) rfl (Nat.le_of_ble_eq_true rfl) (fun h => nomatch h) ?_
  intro C hg hl hC hz hF
  subst hg; subst hl
  have hT := ok_X2_dueOf
  unfold X2_dueOf_8 at hf
  show aX C M_X2_dueOf 0 0 (0, [(0, .ref 8), (1, .int a1)], [], LAY, S)
  refine aRun_ok hC hT 3 (cf' := (5, [(0, .ref 8), (1, .int a1)], [.int a1, .ref 12], LAY, S)) (by rfl) ?_
  obtain ⟨w1, ew2, hf⟩ := aLetE hf
  refine aCallS (As := [.ref 12, .int a1]) (rest := []) hC hT rfl k_X2_dueOf_61.1 _ k_X2_dueOf_61.2 (by rfl) (Nat.le_of_ble_eq_true rfl) (by decide) (J_X6_at_12 C.2.2.1 C.1 a1 S ew2) ?_
  subst hf
  exact aRetI hC hT hF rfl rfl
def X7_leavesNoPageOff_22_b93 (N : Nat) (S : aSt) (rec23 : Int32 → Int32 → Int32 → Int32 → Option (Int32)) (v1 : Int32) (v2 : Int32) (v3 : Int32) (v4 : Int32) : Option (Int32) := (rec23 v1 v2 v3 (v4 + (1 : Int32)))
set_option maxHeartbeats 4000000 in
set_option maxRecDepth 100000 in
theorem X7_leavesNoPageOff_22_b93_ok {C : aC} {N : Nat} {S : aSt} {rec23 : Int32 → Int32 → Int32 → Int32 → Option (Int32)} (hC : aCx C M_X7_leavesNoPageOff) {r : Int32} (hF : aFin C (some (.int r)) LAY S 0 0) (hrec23 : ∀ (v1 : Int32) (v2 : Int32) (v3 : Int32) (v4 : Int32), rec23 v1 v2 v3 v4 = (some r) → aX C M_X7_leavesNoPageOff 0 0 (23, [(0, .ref 22), (1, .int v1), (2, .int v2), (3, .int v3), (4, .int v4)], [], LAY, S)) (v1 : Int32) (v2 : Int32) (v3 : Int32) (v4 : Int32) (hf : X7_leavesNoPageOff_22_b93 N S rec23 v1 v2 v3 v4 = (some r)) : aX C M_X7_leavesNoPageOff 0 0 (93, [(0, .ref 22), (1, .int v1), (2, .int v2), (3, .int v3), (4, .int v4)], [], LAY, S) := by
  have hT := ok_X7_leavesNoPageOff
  unfold X7_leavesNoPageOff_22_b93 at hf
  refine aRun_ok hC hT 2 (cf' := (23, [(4, .int (v4 + (1 : Int32))), (0, .ref 22), (1, .int v1), (2, .int v2), (3, .int v3)], [], LAY, S)) (by rfl) ?_
  refine aLocs [1, 2, 3, 4, 0] (lv' := [(0, .ref 22), (1, .int v1), (2, .int v2), (3, .int v3), (4, .int (v4 + (1 : Int32)))]) rfl ?_
  exact hrec23 v1 v2 v3 (v4 + (1 : Int32)) hf
def X7_leavesNoPageOff_22_b74 (N : Nat) (S : aSt) (rec23 : Int32 → Int32 → Int32 → Int32 → Option (Int32)) (v1 : Int32) (v2 : Int32) (v3 : Int32) (v4 : Int32) (s0 : Int32) (s1 : Int32) : Option (Int32) := (aLet (X2_dueOf_8 v4 S) (fun w12 => (if (s1 + s0) = w12 then (X7_leavesNoPageOff_22_b93 N S rec23 v1 v2 v3 v4) else some ((0 : Int32)))))
set_option maxHeartbeats 4000000 in
set_option maxRecDepth 100000 in
theorem X7_leavesNoPageOff_22_b74_ok {C : aC} {N : Nat} {S : aSt} {rec23 : Int32 → Int32 → Int32 → Int32 → Option (Int32)} (hC : aCx C M_X7_leavesNoPageOff) {r : Int32} (hF : aFin C (some (.int r)) LAY S 0 0) (hrec23 : ∀ (v1 : Int32) (v2 : Int32) (v3 : Int32) (v4 : Int32), rec23 v1 v2 v3 v4 = (some r) → aX C M_X7_leavesNoPageOff 0 0 (23, [(0, .ref 22), (1, .int v1), (2, .int v2), (3, .int v3), (4, .int v4)], [], LAY, S)) (v1 : Int32) (v2 : Int32) (v3 : Int32) (v4 : Int32) (s0 : Int32) (s1 : Int32) (hf : X7_leavesNoPageOff_22_b74 N S rec23 v1 v2 v3 v4 s0 s1 = (some r)) : aX C M_X7_leavesNoPageOff 0 0 (74, [(0, .ref 22), (1, .int v1), (2, .int v2), (3, .int v3), (4, .int v4)], [.int s0, .int s1], LAY, S) := by
  have hT := ok_X7_leavesNoPageOff
  unfold X7_leavesNoPageOff_22_b74 at hf
  refine aRun_ok hC hT 6 (cf' := (85, [(5, .int (s1 + s0)), (0, .ref 22), (1, .int v1), (2, .int v2), (3, .int v3), (4, .int v4)], [.int v4, .ref 8, .int (s1 + s0)], LAY, S)) (by rfl) ?_
  obtain ⟨w12, ew13, hf⟩ := aLetE hf
  refine aCallV (b := 8) (As := [.int v4]) (rest := [.int (s1 + s0)]) hC hT rfl k_X7_leavesNoPageOff_86.1 _ _ k_X7_leavesNoPageOff_86.2 (by decide) (by rfl) (by rfl) (by rfl) (Nat.le_of_ble_eq_true rfl) (by decide) (J_X2_dueOf_8 C.2.2.1 C.1 v4 S ew13) ?_
  refine aCmp_eq hC hT (tgt := 93) rfl (by decide) (fun hc14 => ?_) (fun hc14 => ?_)
  · have hf := aIfT hf hc14
    refine aLocs [1, 2, 3, 4, 5] (lv' := [(0, .ref 22), (1, .int v1), (2, .int v2), (3, .int v3), (4, .int v4)]) rfl ?_
    exact X7_leavesNoPageOff_22_b93_ok hC hF hrec23 v1 v2 v3 v4 hf
  · have hf := aIfF hf hc14
    refine aRun_ok hC hT 1 (cf' := (92, [(5, .int (s1 + s0)), (0, .ref 22), (1, .int v1), (2, .int v2), (3, .int v3), (4, .int v4)], [.int (0 : Int32)], LAY, S)) (by rfl) ?_
    have e9 := Option.some.inj hf; subst e9
    exact aRetB hC hT hF rfl (Or.inl rfl) rfl
def X7_leavesNoPageOff_22_b23 (N : Nat) (S : aSt) (rec23 : Int32 → Int32 → Int32 → Int32 → Option (Int32)) (v1 : Int32) (v2 : Int32) (v3 : Int32) (v4 : Int32) : Option (Int32) := (if (6 : Int32) ≤ v4 then (if v3 = 0 ∨ v3 = 1 then some (v3) else none) else (aLet (X2_hasDue_8 v4 S) (fun w6 => (if w6 = (0 : Int32) then (X7_leavesNoPageOff_22_b93 N S rec23 v1 v2 (1 : Int32) v4) else (aLet (X6_at_24 v4 S) (fun w9 => (if v4 = v2 then (aLet (X8_change_14 v1 S) (fun w15 => (X7_leavesNoPageOff_22_b74 N S rec23 v1 v2 v3 v4 w15 w9))) else (X7_leavesNoPageOff_22_b74 N S rec23 v1 v2 v3 v4 (0 : Int32) w9))))))))
set_option maxHeartbeats 4000000 in
set_option maxRecDepth 100000 in
theorem X7_leavesNoPageOff_22_b23_ok {C : aC} {N : Nat} {S : aSt} {rec23 : Int32 → Int32 → Int32 → Int32 → Option (Int32)} (hC : aCx C M_X7_leavesNoPageOff) {r : Int32} (hF : aFin C (some (.int r)) LAY S 0 0) (hrec23 : ∀ (v1 : Int32) (v2 : Int32) (v3 : Int32) (v4 : Int32), rec23 v1 v2 v3 v4 = (some r) → aX C M_X7_leavesNoPageOff 0 0 (23, [(0, .ref 22), (1, .int v1), (2, .int v2), (3, .int v3), (4, .int v4)], [], LAY, S)) (v1 : Int32) (v2 : Int32) (v3 : Int32) (v4 : Int32) (hf : X7_leavesNoPageOff_22_b23 N S rec23 v1 v2 v3 v4 = (some r)) : aX C M_X7_leavesNoPageOff 0 0 (23, [(0, .ref 22), (1, .int v1), (2, .int v2), (3, .int v3), (4, .int v4)], [], LAY, S) := by
  have hT := ok_X7_leavesNoPageOff
  unfold X7_leavesNoPageOff_22_b23 at hf
  refine aRun_ok hC hT 2 (cf' := (27, [(0, .ref 22), (1, .int v1), (2, .int v2), (3, .int v3), (4, .int v4)], [.int (6 : Int32), .int v4], LAY, S)) (by rfl) ?_
  refine aCmp_ge hC hT (tgt := 99) rfl (by decide) (fun hc4 => ?_) (fun hc4 => ?_)
  · have hf := aIfT hf hc4
    refine aRun_ok hC hT 1 (cf' := (100, [(0, .ref 22), (1, .int v1), (2, .int v2), (3, .int v3), (4, .int v4)], [.int v3], LAY, S)) (by rfl) ?_
    obtain ⟨hb5, hf⟩ := aGdE hf
    have e9 := Option.some.inj hf; subst e9
    exact aRetB hC hT hF rfl hb5 rfl
  · have hf := aIfF hf hc4
    refine aRun_ok hC hT 3 (cf' := (36, [(0, .ref 22), (1, .int v1), (2, .int v2), (3, .int v3), (4, .int v4)], [.int v4, .ref 8], LAY, S)) (by rfl) ?_
    obtain ⟨w6, ew7, hf⟩ := aLetE hf
    refine aCallV (b := 8) (As := [.int v4]) (rest := []) hC hT rfl k_X7_leavesNoPageOff_83.1 _ _ k_X7_leavesNoPageOff_83.2 (by decide) (by rfl) (by rfl) (by rfl) (Nat.le_of_ble_eq_true rfl) (by decide) (J_X2_hasDue_8 C.2.2.1 C.1 v4 S ew7) ?_
    refine aIf_ne hC hT (tgt := 47) rfl (by decide) (fun hc8 => ?_) (fun hc8 => ?_)
    · have hf := aIfF hf hc8
      refine aRun_ok hC hT 3 (cf' := (53, [(0, .ref 22), (1, .int v1), (2, .int v2), (3, .int v3), (4, .int v4)], [.int v4, .ref 24], LAY, S)) (by rfl) ?_
      obtain ⟨w9, ew10, hf⟩ := aLetE hf
      refine aCallS (As := [.ref 24, .int v4]) (rest := []) hC hT rfl k_X7_leavesNoPageOff_30.1 _ k_X7_leavesNoPageOff_30.2 (by rfl) (Nat.le_of_ble_eq_true rfl) (by decide) (J_X6_at_24 C.2.2.1 C.1 v4 S ew10) ?_
      refine aRun_ok hC hT 2 (cf' := (59, [(0, .ref 22), (1, .int v1), (2, .int v2), (3, .int v3), (4, .int v4)], [.int v2, .int v4, .int w9], LAY, S)) (by rfl) ?_
      refine aCmp_ne hC hT (tgt := 73) rfl (by decide) (fun hc11 => ?_) (fun hc11 => ?_)
      · have hf := aIfF hf hc11
        refine aRun_ok hC hT 1 (cf' := (74, [(0, .ref 22), (1, .int v1), (2, .int v2), (3, .int v3), (4, .int v4)], [.int (0 : Int32), .int w9], LAY, S)) (by rfl) ?_
        exact X7_leavesNoPageOff_22_b74_ok hC hF hrec23 v1 v2 v3 v4 (0 : Int32) w9 hf
      · have hf := aIfT hf hc11
        refine aRun_ok hC hT 3 (cf' := (67, [(0, .ref 22), (1, .int v1), (2, .int v2), (3, .int v3), (4, .int v4)], [.int v1, .ref 14, .int w9], LAY, S)) (by rfl) ?_
        obtain ⟨w15, ew16, hf⟩ := aLetE hf
        refine aCallV (b := 14) (As := [.int v1]) (rest := [.int w9]) hC hT rfl k_X7_leavesNoPageOff_57.1 _ _ k_X7_leavesNoPageOff_57.2 (by decide) (by rfl) (by rfl) (by rfl) (Nat.le_of_ble_eq_true rfl) (by decide) (J_X8_change_14 C.2.2.1 C.1 v1 S ew16) ?_
        refine aRun_ok hC hT 1 (cf' := (74, [(0, .ref 22), (1, .int v1), (2, .int v2), (3, .int v3), (4, .int v4)], [.int w15, .int w9], LAY, S)) (by rfl) ?_
        exact X7_leavesNoPageOff_22_b74_ok hC hF hrec23 v1 v2 v3 v4 w15 w9 hf
    · have hf := aIfT hf hc8
      refine aRun_ok hC hT 3 (cf' := (93, [(3, .int (1 : Int32)), (0, .ref 22), (1, .int v1), (2, .int v2), (4, .int v4)], [], LAY, S)) (by rfl) ?_
      refine aLocs [1, 2, 3, 0, 4] (lv' := [(0, .ref 22), (1, .int v1), (2, .int v2), (3, .int (1 : Int32)), (4, .int v4)]) rfl ?_
      exact X7_leavesNoPageOff_22_b93_ok hC hF hrec23 v1 v2 (1 : Int32) v4 hf
def X7_leavesNoPageOff_22_l23 (N : Nat) (S : aSt) : Nat → Int32 → Int32 → Int32 → Int32 → Option (Int32)
  | 0 => fun _ _ _ _ => none
  | n + 1 => X7_leavesNoPageOff_22_b23 N S (X7_leavesNoPageOff_22_l23 N S n)
theorem X7_leavesNoPageOff_22_l23_ok {C : aC} {N : Nat} {S : aSt} (hC : aCx C M_X7_leavesNoPageOff) {r : Int32} (hF : aFin C (some (.int r)) LAY S 0 0) : ∀ (n : Nat) (v1 : Int32) (v2 : Int32) (v3 : Int32) (v4 : Int32), X7_leavesNoPageOff_22_l23 N S n v1 v2 v3 v4 = (some r) → aX C M_X7_leavesNoPageOff 0 0 (23, [(0, .ref 22), (1, .int v1), (2, .int v2), (3, .int v3), (4, .int v4)], [], LAY, S)
  | 0, _, _, _, _,  h => nomatch (show (none : Option (Int32)) = some _ from h)
  | n + 1, v1, v2, v3, v4,  h => X7_leavesNoPageOff_22_b23_ok hC hF (fun v1 v2 v3 v4 h => X7_leavesNoPageOff_22_l23_ok hC hF n v1 v2 v3 v4 h) v1 v2 v3 v4 h
def X7_leavesNoPageOff_22_b19 (N : Nat) (S : aSt) (v1 : Int32) (v2 : Int32) (s0 : Int32) : Option (Int32) := (X7_leavesNoPageOff_22_l23 N S N v1 v2 s0 (0 : Int32))
set_option maxHeartbeats 4000000 in
set_option maxRecDepth 100000 in
theorem X7_leavesNoPageOff_22_b19_ok {C : aC} {N : Nat} {S : aSt} (hC : aCx C M_X7_leavesNoPageOff) {r : Int32} (hF : aFin C (some (.int r)) LAY S 0 0) (v1 : Int32) (v2 : Int32) (s0 : Int32) (hf : X7_leavesNoPageOff_22_b19 N S v1 v2 s0 = (some r)) : aX C M_X7_leavesNoPageOff 0 0 (19, [(0, .ref 22), (1, .int v1), (2, .int v2)], [.int s0], LAY, S) := by
  have hT := ok_X7_leavesNoPageOff
  unfold X7_leavesNoPageOff_22_b19 at hf
  refine aRun_ok hC hT 3 (cf' := (23, [(4, .int (0 : Int32)), (3, .int s0), (0, .ref 22), (1, .int v1), (2, .int v2)], [], LAY, S)) (by rfl) ?_
  refine aLocs [2, 3, 4, 1, 0] (lv' := [(0, .ref 22), (1, .int v1), (2, .int v2), (3, .int s0), (4, .int (0 : Int32))]) rfl ?_
  exact X7_leavesNoPageOff_22_l23_ok hC hF N v1 v2 s0 (0 : Int32) hf
def X7_leavesNoPageOff_22 (N : Nat) (a1 : Int32) (S : aSt) : Option (Int32) := (aLet (X8_pageOf_14 a1 S) (fun w1 => (if w1 = ((-1) : Int32) then (X7_leavesNoPageOff_22_b19 N S a1 w1 (0 : Int32)) else (X7_leavesNoPageOff_22_b19 N S a1 w1 (1 : Int32)))))
set_option maxHeartbeats 4000000 in
set_option maxRecDepth 100000 in
theorem J_X7_leavesNoPageOff_22 (l : Launch) (g : aWg) (N : Nat) (a1 : Int32) (S : aSt) {r : Int32} (hf : X7_leavesNoPageOff_22 N a1 S = (some r)) : aJ l g yX7_leavesNoPageOff M_X7_leavesNoPageOff [.ref 22, .int a1] LAY S (some (.int r)) LAY S 0 0 := by
  refine aJ_of (by decide +kernel) rfl (Nat.le_of_ble_eq_true rfl) (fun h => nomatch h) ?_
  intro C hg hl hC hz hF
  subst hg; subst hl
  have hT := ok_X7_leavesNoPageOff
  unfold X7_leavesNoPageOff_22 at hf
  show aX C M_X7_leavesNoPageOff 0 0 (0, [(0, .ref 22), (1, .int a1)], [], LAY, S)
  refine aRun_ok hC hT 3 (cf' := (5, [(0, .ref 22), (1, .int a1)], [.int a1, .ref 14], LAY, S)) (by rfl) ?_
  obtain ⟨w1, ew2, hf⟩ := aLetE hf
  refine aCallV (b := 14) (As := [.int a1]) (rest := []) hC hT rfl k_X7_leavesNoPageOff_80.1 _ _ k_X7_leavesNoPageOff_80.2 (by decide) (by rfl) (by rfl) (by rfl) (Nat.le_of_ble_eq_true rfl) (by decide) (J_X8_pageOf_14 C.2.2.1 C.1 a1 S ew2) ?_
  refine aRun_ok hC hT 3 (cf' := (11, [(2, .int w1), (0, .ref 22), (1, .int a1)], [.int ((-1) : Int32), .int w1], LAY, S)) (by rfl) ?_
  refine aCmp_eq hC hT (tgt := 18) rfl (by decide) (fun hc3 => ?_) (fun hc3 => ?_)
  · have hf := aIfT hf hc3
    refine aRun_ok hC hT 1 (cf' := (19, [(2, .int w1), (0, .ref 22), (1, .int a1)], [.int (0 : Int32)], LAY, S)) (by rfl) ?_
    refine aLocs [1, 2, 0] (lv' := [(0, .ref 22), (1, .int a1), (2, .int w1)]) rfl ?_
    exact X7_leavesNoPageOff_22_b19_ok hC hF a1 w1 (0 : Int32) hf
  · have hf := aIfF hf hc3
    refine aRun_ok hC hT 2 (cf' := (19, [(2, .int w1), (0, .ref 22), (1, .int a1)], [.int (1 : Int32)], LAY, S)) (by rfl) ?_
    refine aLocs [1, 2, 0] (lv' := [(0, .ref 22), (1, .int a1), (2, .int w1)]) rfl ?_
    exact X7_leavesNoPageOff_22_b19_ok hC hF a1 w1 (1 : Int32) hf
def X6_set_24 (a1 : Int32) (a2 : Int32) (S : aSt) : aSt := (if a1 < (0 : Int32) then S else (if (6 : Int32) ≤ a1 then S else (aA S 24 (upd (S.2.2 24) a1.toNatClampNeg a2))))
set_option maxHeartbeats 4000000 in
set_option maxRecDepth 100000 in
theorem J_X6_set_24 (l : Launch) (g : aWg) (a1 : Int32) (a2 : Int32) (S : aSt) {r : aSt} (hf : X6_set_24 a1 a2 S = r) : aJ l g yX6_set M_X6_set [.ref 24, .int a1, .int a2] LAY S none LAY r 0 0 := by
  refine aJ_of (by decide +kernel) rfl (Nat.le_of_ble_eq_true rfl) (fun h => nomatch h) ?_
  intro C hg hl hC hz hF
  subst hg; subst hl
  have hT := ok_X6_set
  unfold X6_set_24 at hf
  show aX C M_X6_set 0 0 (0, [(0, .ref 24), (1, .int a1), (2, .int a2)], [], LAY, S)
  refine aRun_ok hC hT 1 (cf' := (1, [(0, .ref 24), (1, .int a1), (2, .int a2)], [.int a1], LAY, S)) (by rfl) ?_
  refine aIf_lt hC hT (tgt := 14) rfl (by decide) (fun hc1 => ?_) (fun hc1 => ?_)
  · have hf := aIfT hf hc1
    subst hf
    exact aRetV hC hT hF rfl rfl
  · have hf := aIfF hf hc1
    refine aRun_ok hC hT 3 (cf' := (7, [(0, .ref 24), (1, .int a1), (2, .int a2)], [.int (6 : Int32), .int a1], LAY, S)) (by rfl) ?_
    refine aCmp_ge hC hT (tgt := 14) rfl (by decide) (fun hc2 => ?_) (fun hc2 => ?_)
    · have hf := aIfT hf hc2
      subst hf
      exact aRetV hC hT hF rfl rfl
    · have hf := aIfF hf hc2
      refine aRun_ok hC hT 3 (cf' := (13, [(0, .ref 24), (1, .int a1), (2, .int a2)], [.int a2, .int a1, .ref 24], LAY, S)) (by rfl) ?_
      refine aIast hC hT rfl (by decide) (by rfl) (aIx_of hc1 hc2 (by decide)) ?_
      subst hf
      exact aRetV hC hT hF rfl rfl
def X7_build_22_b130 (N : Nat) (rec52 : Int32 → Int32 → aSt → Option (aSt)) (v1 : Int32) (v2 : Int32) (S : aSt) : Option (aSt) := (rec52 v1 (v2 + (1 : Int32)) S)
set_option maxHeartbeats 4000000 in
set_option maxRecDepth 100000 in
theorem X7_build_22_b130_ok {C : aC} {N : Nat} {rec52 : Int32 → Int32 → aSt → Option (aSt)} (hC : aCx C M_X7_build) {r : aSt} (hF : aFin C none LAY r 0 0) (hrec52 : ∀ (v1 : Int32) (v2 : Int32) (S : aSt), rec52 v1 v2 S = (some r) → aX C M_X7_build 0 0 (52, [(0, .ref 22), (1, .int v1), (2, .int v2)], [], LAY, S)) (v1 : Int32) (v2 : Int32) (S : aSt) (hf : X7_build_22_b130 N rec52 v1 v2 S = (some r)) : aX C M_X7_build 0 0 (130, [(0, .ref 22), (1, .int v1), (2, .int v2)], [], LAY, S) := by
  have hT := ok_X7_build
  unfold X7_build_22_b130 at hf
  refine aRun_ok hC hT 2 (cf' := (52, [(2, .int (v2 + (1 : Int32))), (0, .ref 22), (1, .int v1)], [], LAY, S)) (by rfl) ?_
  refine aLocs [1, 2, 0] (lv' := [(0, .ref 22), (1, .int v1), (2, .int (v2 + (1 : Int32)))]) rfl ?_
  exact hrec52 v1 (v2 + (1 : Int32)) S hf
def X7_build_22_b90 (N : Nat) (rec52 : Int32 → Int32 → aSt → Option (aSt)) (v1 : Int32) (v2 : Int32) (S : aSt) : Option (aSt) := (aLet (X6_set_23 (S.1 22 0) v2 S) (fun w9 => (aLet (X8_weight_14 v2 w9) (fun w11 => (X7_build_22_b130 N rec52 v1 v2 (aI (aL w9 22 1 ((w9.2.1 22 1) + (w11.toInt64))) 22 0 ((w9.1 22 0) + (1 : Int32))))))))
set_option maxHeartbeats 4000000 in
set_option maxRecDepth 100000 in
theorem X7_build_22_b90_ok {C : aC} {N : Nat} {rec52 : Int32 → Int32 → aSt → Option (aSt)} (hC : aCx C M_X7_build) {r : aSt} (hF : aFin C none LAY r 0 0) (hrec52 : ∀ (v1 : Int32) (v2 : Int32) (S : aSt), rec52 v1 v2 S = (some r) → aX C M_X7_build 0 0 (52, [(0, .ref 22), (1, .int v1), (2, .int v2)], [], LAY, S)) (v1 : Int32) (v2 : Int32) (S : aSt) (hf : X7_build_22_b90 N rec52 v1 v2 S = (some r)) : aX C M_X7_build 0 0 (90, [(0, .ref 22), (1, .int v1), (2, .int v2)], [], LAY, S) := by
  have hT := ok_X7_build
  unfold X7_build_22_b90 at hf
  refine aRun_ok hC hT 5 (cf' := (99, [(0, .ref 22), (1, .int v1), (2, .int v2)], [.int v2, .int (S.1 22 0), .ref 23], LAY, S)) (by rfl) ?_
  obtain ⟨w9, ew10, hf⟩ := aLetE hf
  refine aCallS (As := [.ref 23, .int (S.1 22 0), .int v2]) (rest := []) hC hT rfl k_X7_build_50.1 _ k_X7_build_50.2 (by rfl) (Nat.le_of_ble_eq_true rfl) (by decide) (J_X6_set_23 C.2.2.1 C.1 (S.1 22 0) v2 S ew10) ?_
  refine aRun_ok hC hT 6 (cf' := (112, [(0, .ref 22), (1, .int v1), (2, .int v2)], [.int v2, .ref 14, .long (w9.2.1 22 1), .ref 22], LAY, w9)) (by rfl) ?_
  obtain ⟨w11, ew12, hf⟩ := aLetE hf
  refine aCallV (b := 14) (As := [.int v2]) (rest := [.long (w9.2.1 22 1), .ref 22]) hC hT rfl k_X7_build_64.1 _ _ k_X7_build_64.2 (by decide) (by rfl) (by rfl) (by rfl) (Nat.le_of_ble_eq_true rfl) (by decide) (J_X8_weight_14 C.2.2.1 C.1 v2 w9 ew12) ?_
  refine aRun_ok hC hT 9 (cf' := (130, [(0, .ref 22), (1, .int v1), (2, .int v2)], [], LAY, (aI (aL w9 22 1 ((w9.2.1 22 1) + (w11.toInt64))) 22 0 ((w9.1 22 0) + (1 : Int32))))) (by rfl) ?_
  exact X7_build_22_b130_ok hC hF hrec52 v1 v2 (aI (aL w9 22 1 ((w9.2.1 22 1) + (w11.toInt64))) 22 0 ((w9.1 22 0) + (1 : Int32))) hf
def X7_build_22_b52 (N : Nat) (rec52 : Int32 → Int32 → aSt → Option (aSt)) (v1 : Int32) (v2 : Int32) (S : aSt) : Option (aSt) := (if (S.1 14 0) ≤ v2 then some (S) else (aLet (X8_change_14 v2 S) (fun w5 => (if w5 = v1 then (if (S.1 22 4) = (0 : Int32) then (X7_build_22_b90 N rec52 v1 v2 S) else (Option.bind (X7_leavesNoPageOff_22 N v2 S) (fun w13 => (if w13 = (0 : Int32) then (X7_build_22_b130 N rec52 v1 v2 S) else (X7_build_22_b90 N rec52 v1 v2 S))))) else (X7_build_22_b130 N rec52 v1 v2 S)))))
set_option maxHeartbeats 4000000 in
set_option maxRecDepth 100000 in
theorem X7_build_22_b52_ok {C : aC} {N : Nat} {rec52 : Int32 → Int32 → aSt → Option (aSt)} (hC : aCx C M_X7_build) {r : aSt} (hF : aFin C none LAY r 0 0) (hrec52 : ∀ (v1 : Int32) (v2 : Int32) (S : aSt), rec52 v1 v2 S = (some r) → aX C M_X7_build 0 0 (52, [(0, .ref 22), (1, .int v1), (2, .int v2)], [], LAY, S)) (v1 : Int32) (v2 : Int32) (S : aSt) (hf : X7_build_22_b52 N rec52 v1 v2 S = (some r)) : aX C M_X7_build 0 0 (52, [(0, .ref 22), (1, .int v1), (2, .int v2)], [], LAY, S) := by
  have hT := ok_X7_build
  unfold X7_build_22_b52 at hf
  refine aRun_ok hC hT 4 (cf' := (60, [(0, .ref 22), (1, .int v1), (2, .int v2)], [.int (S.1 14 0), .int v2], LAY, S)) (by rfl) ?_
  refine aCmp_ge hC hT (tgt := 136) rfl (by decide) (fun hc4 => ?_) (fun hc4 => ?_)
  · have hf := aIfT hf hc4
    have e9 := Option.some.inj hf; subst e9
    exact aRetV hC hT hF rfl rfl
  · have hf := aIfF hf hc4
    refine aRun_ok hC hT 3 (cf' := (68, [(0, .ref 22), (1, .int v1), (2, .int v2)], [.int v2, .ref 14], LAY, S)) (by rfl) ?_
    obtain ⟨w5, ew6, hf⟩ := aLetE hf
    refine aCallV (b := 14) (As := [.int v2]) (rest := []) hC hT rfl k_X7_build_57.1 _ _ k_X7_build_57.2 (by decide) (by rfl) (by rfl) (by rfl) (Nat.le_of_ble_eq_true rfl) (by decide) (J_X8_change_14 C.2.2.1 C.1 v2 S ew6) ?_
    refine aRun_ok hC hT 1 (cf' := (72, [(0, .ref 22), (1, .int v1), (2, .int v2)], [.int v1, .int w5], LAY, S)) (by rfl) ?_
    refine aCmp_ne hC hT (tgt := 130) rfl (by decide) (fun hc7 => ?_) (fun hc7 => ?_)
    · have hf := aIfF hf hc7
      exact X7_build_22_b130_ok hC hF hrec52 v1 v2 S hf
    · have hf := aIfT hf hc7
      refine aRun_ok hC hT 2 (cf' := (79, [(0, .ref 22), (1, .int v1), (2, .int v2)], [.int (S.1 22 4)], LAY, S)) (by rfl) ?_
      refine aIf_eq hC hT (tgt := 90) rfl (by decide) (fun hc8 => ?_) (fun hc8 => ?_)
      · have hf := aIfT hf hc8
        exact X7_build_22_b90_ok hC hF hrec52 v1 v2 S hf
      · have hf := aIfF hf hc8
        refine aRun_ok hC hT 2 (cf' := (84, [(0, .ref 22), (1, .int v1), (2, .int v2)], [.int v2, .ref 22], LAY, S)) (by rfl) ?_
        obtain ⟨w13, ew14, hf⟩ := aBnE hf
        refine aCallV (b := 22) (As := [.int v2]) (rest := []) hC hT rfl k_X7_build_60.1 _ _ k_X7_build_60.2 (by decide) (by rfl) (by rfl) (by rfl) (Nat.le_of_ble_eq_true rfl) (by decide) (J_X7_leavesNoPageOff_22 C.2.2.1 C.1 N v2 S ew14) ?_
        refine aIf_eq hC hT (tgt := 130) rfl (by decide) (fun hc15 => ?_) (fun hc15 => ?_)
        · have hf := aIfT hf hc15
          exact X7_build_22_b130_ok hC hF hrec52 v1 v2 S hf
        · have hf := aIfF hf hc15
          exact X7_build_22_b90_ok hC hF hrec52 v1 v2 S hf
def X7_build_22_l52 (N : Nat) : Nat → Int32 → Int32 → aSt → Option (aSt)
  | 0 => fun _ _ _ => none
  | n + 1 => X7_build_22_b52 N (X7_build_22_l52 N n)
theorem X7_build_22_l52_ok {C : aC} {N : Nat} (hC : aCx C M_X7_build) {r : aSt} (hF : aFin C none LAY r 0 0) : ∀ (n : Nat) (v1 : Int32) (v2 : Int32) (S : aSt), X7_build_22_l52 N n v1 v2 S = (some r) → aX C M_X7_build 0 0 (52, [(0, .ref 22), (1, .int v1), (2, .int v2)], [], LAY, S)
  | 0, _, _, _,  h => nomatch (show (none : Option (aSt)) = some _ from h)
  | n + 1, v1, v2, S,  h => X7_build_22_b52_ok hC hF (fun v1 v2 S h => X7_build_22_l52_ok hC hF n v1 v2 S h) v1 v2 S h
def X7_build_22_b40 (N : Nat) (S : aSt) : Option (aSt) := (Option.bind (X2_outOf_8 N ((-1) : Int32) S) (fun w2 => (X7_build_22_l52 N N (-w2) (0 : Int32) S)))
set_option maxHeartbeats 4000000 in
set_option maxRecDepth 100000 in
theorem X7_build_22_b40_ok {C : aC} {N : Nat} (hC : aCx C M_X7_build) {r : aSt} (hF : aFin C none LAY r 0 0) (S : aSt) (hf : X7_build_22_b40 N S = (some r)) : aX C M_X7_build 0 0 (40, [(0, .ref 22)], [], LAY, S) := by
  have hT := ok_X7_build
  unfold X7_build_22_b40 at hf
  refine aRun_ok hC hT 3 (cf' := (45, [(0, .ref 22)], [.int ((-1) : Int32), .ref 8], LAY, S)) (by rfl) ?_
  obtain ⟨w2, ew3, hf⟩ := aBnE hf
  refine aCallV (b := 8) (As := [.int ((-1) : Int32)]) (rest := []) hC hT rfl k_X7_build_44.1 _ _ k_X7_build_44.2 (by decide) (by rfl) (by rfl) (by rfl) (Nat.le_of_ble_eq_true rfl) (by decide) (J_X2_outOf_8 C.2.2.1 C.1 N ((-1) : Int32) S ew3) ?_
  refine aRun_ok hC hT 4 (cf' := (52, [(2, .int (0 : Int32)), (1, .int (-w2)), (0, .ref 22)], [], LAY, S)) (by rfl) ?_
  refine aLocs [2, 1, 0] (lv' := [(0, .ref 22), (1, .int (-w2)), (2, .int (0 : Int32))]) rfl ?_
  exact X7_build_22_l52_ok hC hF N (-w2) (0 : Int32) S hf
def X7_build_22_b12 (N : Nat) (rec12 : Int32 → aSt → Option (aSt)) (v1 : Int32) (S : aSt) : Option (aSt) := (if (6 : Int32) ≤ v1 then (X7_build_22_b40 N S) else (Option.bind (X2_outOf_8 N v1 S) (fun w16 => (aLet (X6_set_24 v1 w16 S) (fun w18 => (rec12 (v1 + (1 : Int32)) w18))))))
set_option maxHeartbeats 4000000 in
set_option maxRecDepth 100000 in
theorem X7_build_22_b12_ok {C : aC} {N : Nat} {rec12 : Int32 → aSt → Option (aSt)} (hC : aCx C M_X7_build) {r : aSt} (hF : aFin C none LAY r 0 0) (hrec12 : ∀ (v1 : Int32) (S : aSt), rec12 v1 S = (some r) → aX C M_X7_build 0 0 (12, [(0, .ref 22), (1, .int v1)], [], LAY, S)) (v1 : Int32) (S : aSt) (hf : X7_build_22_b12 N rec12 v1 S = (some r)) : aX C M_X7_build 0 0 (12, [(0, .ref 22), (1, .int v1)], [], LAY, S) := by
  have hT := ok_X7_build
  unfold X7_build_22_b12 at hf
  refine aRun_ok hC hT 2 (cf' := (15, [(0, .ref 22), (1, .int v1)], [.int (6 : Int32), .int v1], LAY, S)) (by rfl) ?_
  refine aCmp_ge hC hT (tgt := 40) rfl (by decide) (fun hc1 => ?_) (fun hc1 => ?_)
  · have hf := aIfT hf hc1
    refine aLocs [0] (lv' := [(0, .ref 22)]) rfl ?_
    exact X7_build_22_b40_ok hC hF S hf
  · have hf := aIfF hf hc1
    refine aRun_ok hC hT 6 (cf' := (28, [(0, .ref 22), (1, .int v1)], [.int v1, .ref 8, .int v1, .ref 24], LAY, S)) (by rfl) ?_
    obtain ⟨w16, ew17, hf⟩ := aBnE hf
    refine aCallV (b := 8) (As := [.int v1]) (rest := [.int v1, .ref 24]) hC hT rfl k_X7_build_44.1 _ _ k_X7_build_44.2 (by decide) (by rfl) (by rfl) (by rfl) (Nat.le_of_ble_eq_true rfl) (by decide) (J_X2_outOf_8 C.2.2.1 C.1 N v1 S ew17) ?_
    obtain ⟨w18, ew19, hf⟩ := aLetE hf
    refine aCallS (As := [.ref 24, .int v1, .int w16]) (rest := []) hC hT rfl k_X7_build_50.1 _ k_X7_build_50.2 (by rfl) (Nat.le_of_ble_eq_true rfl) (by decide) (J_X6_set_24 C.2.2.1 C.1 v1 w16 S ew19) ?_
    refine aRun_ok hC hT 2 (cf' := (12, [(1, .int (v1 + (1 : Int32))), (0, .ref 22)], [], LAY, w18)) (by rfl) ?_
    refine aLocs [1, 0] (lv' := [(0, .ref 22), (1, .int (v1 + (1 : Int32)))]) rfl ?_
    exact hrec12 (v1 + (1 : Int32)) w18 hf
def X7_build_22_l12 (N : Nat) : Nat → Int32 → aSt → Option (aSt)
  | 0 => fun _ _ => none
  | n + 1 => X7_build_22_b12 N (X7_build_22_l12 N n)
theorem X7_build_22_l12_ok {C : aC} {N : Nat} (hC : aCx C M_X7_build) {r : aSt} (hF : aFin C none LAY r 0 0) : ∀ (n : Nat) (v1 : Int32) (S : aSt), X7_build_22_l12 N n v1 S = (some r) → aX C M_X7_build 0 0 (12, [(0, .ref 22), (1, .int v1)], [], LAY, S)
  | 0, _, _,  h => nomatch (show (none : Option (aSt)) = some _ from h)
  | n + 1, v1, S,  h => X7_build_22_b12_ok hC hF (fun v1 S h => X7_build_22_l12_ok hC hF n v1 S h) v1 S h
def X7_build_22 (N : Nat) (S : aSt) : Option (aSt) := (X7_build_22_l12 N N (0 : Int32) (aL (aI S 22 0 (0 : Int32)) 22 1 (0 : Int64)))
set_option maxHeartbeats 4000000 in
set_option maxRecDepth 100000 in
theorem J_X7_build_22 (l : Launch) (g : aWg) (N : Nat) (S : aSt) {r : aSt} (hf : X7_build_22 N S = (some r)) : aJ l g yX7_build M_X7_build [.ref 22] LAY S none LAY r 0 0 := by
  refine aJ_of (by decide +kernel) rfl (Nat.le_of_ble_eq_true rfl) (fun h => nomatch h) ?_
  intro C hg hl hC hz hF
  subst hg; subst hl
  have hT := ok_X7_build
  unfold X7_build_22 at hf
  show aX C M_X7_build 0 0 (0, [(0, .ref 22)], [], LAY, S)
  refine aRun_ok hC hT 8 (cf' := (12, [(1, .int (0 : Int32)), (0, .ref 22)], [], LAY, (aL (aI S 22 0 (0 : Int32)) 22 1 (0 : Int64)))) (by rfl) ?_
  refine aLocs [1, 0] (lv' := [(0, .ref 22), (1, .int (0 : Int32))]) rfl ?_
  exact X7_build_22_l12_ok hC hF N (0 : Int32) (aL (aI S 22 0 (0 : Int32)) 22 1 (0 : Int64)) hf
def X6_set_26 (a1 : Int32) (a2 : Int32) (S : aSt) : aSt := (if a1 < (0 : Int32) then S else (if (157 : Int32) ≤ a1 then S else (aA S 26 (upd (S.2.2 26) a1.toNatClampNeg a2))))
set_option maxHeartbeats 4000000 in
set_option maxRecDepth 100000 in
theorem J_X6_set_26 (l : Launch) (g : aWg) (a1 : Int32) (a2 : Int32) (S : aSt) {r : aSt} (hf : X6_set_26 a1 a2 S = r) : aJ l g yX6_set M_X6_set [.ref 26, .int a1, .int a2] LAY S none LAY r 0 0 := by
  refine aJ_of (by decide +kernel) rfl (Nat.le_of_ble_eq_true rfl) (fun h => nomatch h) ?_
  intro C hg hl hC hz hF
  subst hg; subst hl
  have hT := ok_X6_set
  unfold X6_set_26 at hf
  show aX C M_X6_set 0 0 (0, [(0, .ref 26), (1, .int a1), (2, .int a2)], [], LAY, S)
  refine aRun_ok hC hT 1 (cf' := (1, [(0, .ref 26), (1, .int a1), (2, .int a2)], [.int a1], LAY, S)) (by rfl) ?_
  refine aIf_lt hC hT (tgt := 14) rfl (by decide) (fun hc1 => ?_) (fun hc1 => ?_)
  · have hf := aIfT hf hc1
    subst hf
    exact aRetV hC hT hF rfl rfl
  · have hf := aIfF hf hc1
    refine aRun_ok hC hT 3 (cf' := (7, [(0, .ref 26), (1, .int a1), (2, .int a2)], [.int (157 : Int32), .int a1], LAY, S)) (by rfl) ?_
    refine aCmp_ge hC hT (tgt := 14) rfl (by decide) (fun hc2 => ?_) (fun hc2 => ?_)
    · have hf := aIfT hf hc2
      subst hf
      exact aRetV hC hT hF rfl rfl
    · have hf := aIfF hf hc2
      refine aRun_ok hC hT 3 (cf' := (13, [(0, .ref 26), (1, .int a1), (2, .int a2)], [.int a2, .int a1, .ref 26], LAY, S)) (by rfl) ?_
      refine aIast hC hT rfl (by decide) (by rfl) (aIx_of hc1 hc2 (by decide)) ?_
      subst hf
      exact aRetV hC hT hF rfl rfl
def X6_at_27 (a1 : Int32) (S : aSt) : Int32 := (if a1 < (0 : Int32) then (0 : Int32) else (if (6 : Int32) ≤ a1 then (0 : Int32) else ((S.2.2 27) a1.toNatClampNeg)))
set_option maxHeartbeats 4000000 in
set_option maxRecDepth 100000 in
theorem J_X6_at_27 (l : Launch) (g : aWg) (a1 : Int32) (S : aSt) {r : Int32} (hf : X6_at_27 a1 S = r) : aJ l g yX6_at M_X6_at [.ref 27, .int a1] LAY S (some (.int r)) LAY S 0 0 := by
  refine aJ_of (by decide +kernel) rfl (Nat.le_of_ble_eq_true rfl) (fun h => nomatch h) ?_
  intro C hg hl hC hz hF
  subst hg; subst hl
  have hT := ok_X6_at
  unfold X6_at_27 at hf
  show aX C M_X6_at 0 0 (0, [(0, .ref 27), (1, .int a1)], [], LAY, S)
  refine aRun_ok hC hT 1 (cf' := (1, [(0, .ref 27), (1, .int a1)], [.int a1], LAY, S)) (by rfl) ?_
  refine aIf_lt hC hT (tgt := 16) rfl (by decide) (fun hc1 => ?_) (fun hc1 => ?_)
  · have hf := aIfT hf hc1
    refine aRun_ok hC hT 1 (cf' := (17, [(0, .ref 27), (1, .int a1)], [.int (0 : Int32)], LAY, S)) (by rfl) ?_
    subst hf
    exact aRetI hC hT hF rfl rfl
  · have hf := aIfF hf hc1
    refine aRun_ok hC hT 3 (cf' := (7, [(0, .ref 27), (1, .int a1)], [.int (6 : Int32), .int a1], LAY, S)) (by rfl) ?_
    refine aCmp_ge hC hT (tgt := 16) rfl (by decide) (fun hc2 => ?_) (fun hc2 => ?_)
    · have hf := aIfT hf hc2
      refine aRun_ok hC hT 1 (cf' := (17, [(0, .ref 27), (1, .int a1)], [.int (0 : Int32)], LAY, S)) (by rfl) ?_
      subst hf
      exact aRetI hC hT hF rfl rfl
    · have hf := aIfF hf hc2
      refine aRun_ok hC hT 2 (cf' := (12, [(0, .ref 27), (1, .int a1)], [.int a1, .ref 27], LAY, S)) (by rfl) ?_
      refine aIald hC hT rfl (by decide) (by rfl) (aIx_of hc1 hc2 (by decide)) ?_
      refine aRun_ok hC hT 1 (cf' := (17, [(0, .ref 27), (1, .int a1)], [.int ((S.2.2 27) a1.toNatClampNeg)], LAY, S)) (by rfl) ?_
      subst hf
      exact aRetI hC hT hF rfl rfl
def X7_leavesNoPageOff_25_b93 (N : Nat) (S : aSt) (rec23 : Int32 → Int32 → Int32 → Int32 → Option (Int32)) (v1 : Int32) (v2 : Int32) (v3 : Int32) (v4 : Int32) : Option (Int32) := (rec23 v1 v2 v3 (v4 + (1 : Int32)))
set_option maxHeartbeats 4000000 in
set_option maxRecDepth 100000 in
theorem X7_leavesNoPageOff_25_b93_ok {C : aC} {N : Nat} {S : aSt} {rec23 : Int32 → Int32 → Int32 → Int32 → Option (Int32)} (hC : aCx C M_X7_leavesNoPageOff) {r : Int32} (hF : aFin C (some (.int r)) LAY S 0 0) (hrec23 : ∀ (v1 : Int32) (v2 : Int32) (v3 : Int32) (v4 : Int32), rec23 v1 v2 v3 v4 = (some r) → aX C M_X7_leavesNoPageOff 0 0 (23, [(0, .ref 25), (1, .int v1), (2, .int v2), (3, .int v3), (4, .int v4)], [], LAY, S)) (v1 : Int32) (v2 : Int32) (v3 : Int32) (v4 : Int32) (hf : X7_leavesNoPageOff_25_b93 N S rec23 v1 v2 v3 v4 = (some r)) : aX C M_X7_leavesNoPageOff 0 0 (93, [(0, .ref 25), (1, .int v1), (2, .int v2), (3, .int v3), (4, .int v4)], [], LAY, S) := by
  have hT := ok_X7_leavesNoPageOff
  unfold X7_leavesNoPageOff_25_b93 at hf
  refine aRun_ok hC hT 2 (cf' := (23, [(4, .int (v4 + (1 : Int32))), (0, .ref 25), (1, .int v1), (2, .int v2), (3, .int v3)], [], LAY, S)) (by rfl) ?_
  refine aLocs [1, 2, 3, 4, 0] (lv' := [(0, .ref 25), (1, .int v1), (2, .int v2), (3, .int v3), (4, .int (v4 + (1 : Int32)))]) rfl ?_
  exact hrec23 v1 v2 v3 (v4 + (1 : Int32)) hf
def X7_leavesNoPageOff_25_b74 (N : Nat) (S : aSt) (rec23 : Int32 → Int32 → Int32 → Int32 → Option (Int32)) (v1 : Int32) (v2 : Int32) (v3 : Int32) (v4 : Int32) (s0 : Int32) (s1 : Int32) : Option (Int32) := (aLet (X2_dueOf_8 v4 S) (fun w12 => (if (s1 + s0) = w12 then (X7_leavesNoPageOff_25_b93 N S rec23 v1 v2 v3 v4) else some ((0 : Int32)))))
set_option maxHeartbeats 4000000 in
set_option maxRecDepth 100000 in
theorem X7_leavesNoPageOff_25_b74_ok {C : aC} {N : Nat} {S : aSt} {rec23 : Int32 → Int32 → Int32 → Int32 → Option (Int32)} (hC : aCx C M_X7_leavesNoPageOff) {r : Int32} (hF : aFin C (some (.int r)) LAY S 0 0) (hrec23 : ∀ (v1 : Int32) (v2 : Int32) (v3 : Int32) (v4 : Int32), rec23 v1 v2 v3 v4 = (some r) → aX C M_X7_leavesNoPageOff 0 0 (23, [(0, .ref 25), (1, .int v1), (2, .int v2), (3, .int v3), (4, .int v4)], [], LAY, S)) (v1 : Int32) (v2 : Int32) (v3 : Int32) (v4 : Int32) (s0 : Int32) (s1 : Int32) (hf : X7_leavesNoPageOff_25_b74 N S rec23 v1 v2 v3 v4 s0 s1 = (some r)) : aX C M_X7_leavesNoPageOff 0 0 (74, [(0, .ref 25), (1, .int v1), (2, .int v2), (3, .int v3), (4, .int v4)], [.int s0, .int s1], LAY, S) := by
  have hT := ok_X7_leavesNoPageOff
  unfold X7_leavesNoPageOff_25_b74 at hf
  refine aRun_ok hC hT 6 (cf' := (85, [(5, .int (s1 + s0)), (0, .ref 25), (1, .int v1), (2, .int v2), (3, .int v3), (4, .int v4)], [.int v4, .ref 8, .int (s1 + s0)], LAY, S)) (by rfl) ?_
  obtain ⟨w12, ew13, hf⟩ := aLetE hf
  refine aCallV (b := 8) (As := [.int v4]) (rest := [.int (s1 + s0)]) hC hT rfl k_X7_leavesNoPageOff_86.1 _ _ k_X7_leavesNoPageOff_86.2 (by decide) (by rfl) (by rfl) (by rfl) (Nat.le_of_ble_eq_true rfl) (by decide) (J_X2_dueOf_8 C.2.2.1 C.1 v4 S ew13) ?_
  refine aCmp_eq hC hT (tgt := 93) rfl (by decide) (fun hc14 => ?_) (fun hc14 => ?_)
  · have hf := aIfT hf hc14
    refine aLocs [1, 2, 3, 4, 5] (lv' := [(0, .ref 25), (1, .int v1), (2, .int v2), (3, .int v3), (4, .int v4)]) rfl ?_
    exact X7_leavesNoPageOff_25_b93_ok hC hF hrec23 v1 v2 v3 v4 hf
  · have hf := aIfF hf hc14
    refine aRun_ok hC hT 1 (cf' := (92, [(5, .int (s1 + s0)), (0, .ref 25), (1, .int v1), (2, .int v2), (3, .int v3), (4, .int v4)], [.int (0 : Int32)], LAY, S)) (by rfl) ?_
    have e9 := Option.some.inj hf; subst e9
    exact aRetB hC hT hF rfl (Or.inl rfl) rfl
def X7_leavesNoPageOff_25_b23 (N : Nat) (S : aSt) (rec23 : Int32 → Int32 → Int32 → Int32 → Option (Int32)) (v1 : Int32) (v2 : Int32) (v3 : Int32) (v4 : Int32) : Option (Int32) := (if (6 : Int32) ≤ v4 then (if v3 = 0 ∨ v3 = 1 then some (v3) else none) else (aLet (X2_hasDue_8 v4 S) (fun w6 => (if w6 = (0 : Int32) then (X7_leavesNoPageOff_25_b93 N S rec23 v1 v2 (1 : Int32) v4) else (aLet (X6_at_27 v4 S) (fun w9 => (if v4 = v2 then (aLet (X8_change_14 v1 S) (fun w15 => (X7_leavesNoPageOff_25_b74 N S rec23 v1 v2 v3 v4 w15 w9))) else (X7_leavesNoPageOff_25_b74 N S rec23 v1 v2 v3 v4 (0 : Int32) w9))))))))
set_option maxHeartbeats 4000000 in
set_option maxRecDepth 100000 in
theorem X7_leavesNoPageOff_25_b23_ok {C : aC} {N : Nat} {S : aSt} {rec23 : Int32 → Int32 → Int32 → Int32 → Option (Int32)} (hC : aCx C M_X7_leavesNoPageOff) {r : Int32} (hF : aFin C (some (.int r)) LAY S 0 0) (hrec23 : ∀ (v1 : Int32) (v2 : Int32) (v3 : Int32) (v4 : Int32), rec23 v1 v2 v3 v4 = (some r) → aX C M_X7_leavesNoPageOff 0 0 (23, [(0, .ref 25), (1, .int v1), (2, .int v2), (3, .int v3), (4, .int v4)], [], LAY, S)) (v1 : Int32) (v2 : Int32) (v3 : Int32) (v4 : Int32) (hf : X7_leavesNoPageOff_25_b23 N S rec23 v1 v2 v3 v4 = (some r)) : aX C M_X7_leavesNoPageOff 0 0 (23, [(0, .ref 25), (1, .int v1), (2, .int v2), (3, .int v3), (4, .int v4)], [], LAY, S) := by
  have hT := ok_X7_leavesNoPageOff
  unfold X7_leavesNoPageOff_25_b23 at hf
  refine aRun_ok hC hT 2 (cf' := (27, [(0, .ref 25), (1, .int v1), (2, .int v2), (3, .int v3), (4, .int v4)], [.int (6 : Int32), .int v4], LAY, S)) (by rfl) ?_
  refine aCmp_ge hC hT (tgt := 99) rfl (by decide) (fun hc4 => ?_) (fun hc4 => ?_)
  · have hf := aIfT hf hc4
    refine aRun_ok hC hT 1 (cf' := (100, [(0, .ref 25), (1, .int v1), (2, .int v2), (3, .int v3), (4, .int v4)], [.int v3], LAY, S)) (by rfl) ?_
    obtain ⟨hb5, hf⟩ := aGdE hf
    have e9 := Option.some.inj hf; subst e9
    exact aRetB hC hT hF rfl hb5 rfl
  · have hf := aIfF hf hc4
    refine aRun_ok hC hT 3 (cf' := (36, [(0, .ref 25), (1, .int v1), (2, .int v2), (3, .int v3), (4, .int v4)], [.int v4, .ref 8], LAY, S)) (by rfl) ?_
    obtain ⟨w6, ew7, hf⟩ := aLetE hf
    refine aCallV (b := 8) (As := [.int v4]) (rest := []) hC hT rfl k_X7_leavesNoPageOff_83.1 _ _ k_X7_leavesNoPageOff_83.2 (by decide) (by rfl) (by rfl) (by rfl) (Nat.le_of_ble_eq_true rfl) (by decide) (J_X2_hasDue_8 C.2.2.1 C.1 v4 S ew7) ?_
    refine aIf_ne hC hT (tgt := 47) rfl (by decide) (fun hc8 => ?_) (fun hc8 => ?_)
    · have hf := aIfF hf hc8
      refine aRun_ok hC hT 3 (cf' := (53, [(0, .ref 25), (1, .int v1), (2, .int v2), (3, .int v3), (4, .int v4)], [.int v4, .ref 27], LAY, S)) (by rfl) ?_
      obtain ⟨w9, ew10, hf⟩ := aLetE hf
      refine aCallS (As := [.ref 27, .int v4]) (rest := []) hC hT rfl k_X7_leavesNoPageOff_30.1 _ k_X7_leavesNoPageOff_30.2 (by rfl) (Nat.le_of_ble_eq_true rfl) (by decide) (J_X6_at_27 C.2.2.1 C.1 v4 S ew10) ?_
      refine aRun_ok hC hT 2 (cf' := (59, [(0, .ref 25), (1, .int v1), (2, .int v2), (3, .int v3), (4, .int v4)], [.int v2, .int v4, .int w9], LAY, S)) (by rfl) ?_
      refine aCmp_ne hC hT (tgt := 73) rfl (by decide) (fun hc11 => ?_) (fun hc11 => ?_)
      · have hf := aIfF hf hc11
        refine aRun_ok hC hT 1 (cf' := (74, [(0, .ref 25), (1, .int v1), (2, .int v2), (3, .int v3), (4, .int v4)], [.int (0 : Int32), .int w9], LAY, S)) (by rfl) ?_
        exact X7_leavesNoPageOff_25_b74_ok hC hF hrec23 v1 v2 v3 v4 (0 : Int32) w9 hf
      · have hf := aIfT hf hc11
        refine aRun_ok hC hT 3 (cf' := (67, [(0, .ref 25), (1, .int v1), (2, .int v2), (3, .int v3), (4, .int v4)], [.int v1, .ref 14, .int w9], LAY, S)) (by rfl) ?_
        obtain ⟨w15, ew16, hf⟩ := aLetE hf
        refine aCallV (b := 14) (As := [.int v1]) (rest := [.int w9]) hC hT rfl k_X7_leavesNoPageOff_57.1 _ _ k_X7_leavesNoPageOff_57.2 (by decide) (by rfl) (by rfl) (by rfl) (Nat.le_of_ble_eq_true rfl) (by decide) (J_X8_change_14 C.2.2.1 C.1 v1 S ew16) ?_
        refine aRun_ok hC hT 1 (cf' := (74, [(0, .ref 25), (1, .int v1), (2, .int v2), (3, .int v3), (4, .int v4)], [.int w15, .int w9], LAY, S)) (by rfl) ?_
        exact X7_leavesNoPageOff_25_b74_ok hC hF hrec23 v1 v2 v3 v4 w15 w9 hf
    · have hf := aIfT hf hc8
      refine aRun_ok hC hT 3 (cf' := (93, [(3, .int (1 : Int32)), (0, .ref 25), (1, .int v1), (2, .int v2), (4, .int v4)], [], LAY, S)) (by rfl) ?_
      refine aLocs [1, 2, 3, 0, 4] (lv' := [(0, .ref 25), (1, .int v1), (2, .int v2), (3, .int (1 : Int32)), (4, .int v4)]) rfl ?_
      exact X7_leavesNoPageOff_25_b93_ok hC hF hrec23 v1 v2 (1 : Int32) v4 hf
def X7_leavesNoPageOff_25_l23 (N : Nat) (S : aSt) : Nat → Int32 → Int32 → Int32 → Int32 → Option (Int32)
  | 0 => fun _ _ _ _ => none
  | n + 1 => X7_leavesNoPageOff_25_b23 N S (X7_leavesNoPageOff_25_l23 N S n)
theorem X7_leavesNoPageOff_25_l23_ok {C : aC} {N : Nat} {S : aSt} (hC : aCx C M_X7_leavesNoPageOff) {r : Int32} (hF : aFin C (some (.int r)) LAY S 0 0) : ∀ (n : Nat) (v1 : Int32) (v2 : Int32) (v3 : Int32) (v4 : Int32), X7_leavesNoPageOff_25_l23 N S n v1 v2 v3 v4 = (some r) → aX C M_X7_leavesNoPageOff 0 0 (23, [(0, .ref 25), (1, .int v1), (2, .int v2), (3, .int v3), (4, .int v4)], [], LAY, S)
  | 0, _, _, _, _,  h => nomatch (show (none : Option (Int32)) = some _ from h)
  | n + 1, v1, v2, v3, v4,  h => X7_leavesNoPageOff_25_b23_ok hC hF (fun v1 v2 v3 v4 h => X7_leavesNoPageOff_25_l23_ok hC hF n v1 v2 v3 v4 h) v1 v2 v3 v4 h
def X7_leavesNoPageOff_25_b19 (N : Nat) (S : aSt) (v1 : Int32) (v2 : Int32) (s0 : Int32) : Option (Int32) := (X7_leavesNoPageOff_25_l23 N S N v1 v2 s0 (0 : Int32))
set_option maxHeartbeats 4000000 in
set_option maxRecDepth 100000 in
theorem X7_leavesNoPageOff_25_b19_ok {C : aC} {N : Nat} {S : aSt} (hC : aCx C M_X7_leavesNoPageOff) {r : Int32} (hF : aFin C (some (.int r)) LAY S 0 0) (v1 : Int32) (v2 : Int32) (s0 : Int32) (hf : X7_leavesNoPageOff_25_b19 N S v1 v2 s0 = (some r)) : aX C M_X7_leavesNoPageOff 0 0 (19, [(0, .ref 25), (1, .int v1), (2, .int v2)], [.int s0], LAY, S) := by
  have hT := ok_X7_leavesNoPageOff
  unfold X7_leavesNoPageOff_25_b19 at hf
  refine aRun_ok hC hT 3 (cf' := (23, [(4, .int (0 : Int32)), (3, .int s0), (0, .ref 25), (1, .int v1), (2, .int v2)], [], LAY, S)) (by rfl) ?_
  refine aLocs [2, 3, 4, 1, 0] (lv' := [(0, .ref 25), (1, .int v1), (2, .int v2), (3, .int s0), (4, .int (0 : Int32))]) rfl ?_
  exact X7_leavesNoPageOff_25_l23_ok hC hF N v1 v2 s0 (0 : Int32) hf
def X7_leavesNoPageOff_25 (N : Nat) (a1 : Int32) (S : aSt) : Option (Int32) := (aLet (X8_pageOf_14 a1 S) (fun w1 => (if w1 = ((-1) : Int32) then (X7_leavesNoPageOff_25_b19 N S a1 w1 (0 : Int32)) else (X7_leavesNoPageOff_25_b19 N S a1 w1 (1 : Int32)))))
set_option maxHeartbeats 4000000 in
set_option maxRecDepth 100000 in
theorem J_X7_leavesNoPageOff_25 (l : Launch) (g : aWg) (N : Nat) (a1 : Int32) (S : aSt) {r : Int32} (hf : X7_leavesNoPageOff_25 N a1 S = (some r)) : aJ l g yX7_leavesNoPageOff M_X7_leavesNoPageOff [.ref 25, .int a1] LAY S (some (.int r)) LAY S 0 0 := by
  refine aJ_of (by decide +kernel) rfl (Nat.le_of_ble_eq_true rfl) (fun h => nomatch h) ?_
  intro C hg hl hC hz hF
  subst hg; subst hl
  have hT := ok_X7_leavesNoPageOff
  unfold X7_leavesNoPageOff_25 at hf
  show aX C M_X7_leavesNoPageOff 0 0 (0, [(0, .ref 25), (1, .int a1)], [], LAY, S)
  refine aRun_ok hC hT 3 (cf' := (5, [(0, .ref 25), (1, .int a1)], [.int a1, .ref 14], LAY, S)) (by rfl) ?_
  obtain ⟨w1, ew2, hf⟩ := aLetE hf
  refine aCallV (b := 14) (As := [.int a1]) (rest := []) hC hT rfl k_X7_leavesNoPageOff_80.1 _ _ k_X7_leavesNoPageOff_80.2 (by decide) (by rfl) (by rfl) (by rfl) (Nat.le_of_ble_eq_true rfl) (by decide) (J_X8_pageOf_14 C.2.2.1 C.1 a1 S ew2) ?_
  refine aRun_ok hC hT 3 (cf' := (11, [(2, .int w1), (0, .ref 25), (1, .int a1)], [.int ((-1) : Int32), .int w1], LAY, S)) (by rfl) ?_
  refine aCmp_eq hC hT (tgt := 18) rfl (by decide) (fun hc3 => ?_) (fun hc3 => ?_)
  · have hf := aIfT hf hc3
    refine aRun_ok hC hT 1 (cf' := (19, [(2, .int w1), (0, .ref 25), (1, .int a1)], [.int (0 : Int32)], LAY, S)) (by rfl) ?_
    refine aLocs [1, 2, 0] (lv' := [(0, .ref 25), (1, .int a1), (2, .int w1)]) rfl ?_
    exact X7_leavesNoPageOff_25_b19_ok hC hF a1 w1 (0 : Int32) hf
  · have hf := aIfF hf hc3
    refine aRun_ok hC hT 2 (cf' := (19, [(2, .int w1), (0, .ref 25), (1, .int a1)], [.int (1 : Int32)], LAY, S)) (by rfl) ?_
    refine aLocs [1, 2, 0] (lv' := [(0, .ref 25), (1, .int a1), (2, .int w1)]) rfl ?_
    exact X7_leavesNoPageOff_25_b19_ok hC hF a1 w1 (1 : Int32) hf
def X6_set_27 (a1 : Int32) (a2 : Int32) (S : aSt) : aSt := (if a1 < (0 : Int32) then S else (if (6 : Int32) ≤ a1 then S else (aA S 27 (upd (S.2.2 27) a1.toNatClampNeg a2))))
set_option maxHeartbeats 4000000 in
set_option maxRecDepth 100000 in
theorem J_X6_set_27 (l : Launch) (g : aWg) (a1 : Int32) (a2 : Int32) (S : aSt) {r : aSt} (hf : X6_set_27 a1 a2 S = r) : aJ l g yX6_set M_X6_set [.ref 27, .int a1, .int a2] LAY S none LAY r 0 0 := by
  refine aJ_of (by decide +kernel) rfl (Nat.le_of_ble_eq_true rfl) (fun h => nomatch h) ?_
  intro C hg hl hC hz hF
  subst hg; subst hl
  have hT := ok_X6_set
  unfold X6_set_27 at hf
  show aX C M_X6_set 0 0 (0, [(0, .ref 27), (1, .int a1), (2, .int a2)], [], LAY, S)
  refine aRun_ok hC hT 1 (cf' := (1, [(0, .ref 27), (1, .int a1), (2, .int a2)], [.int a1], LAY, S)) (by rfl) ?_
  refine aIf_lt hC hT (tgt := 14) rfl (by decide) (fun hc1 => ?_) (fun hc1 => ?_)
  · have hf := aIfT hf hc1
    subst hf
    exact aRetV hC hT hF rfl rfl
  · have hf := aIfF hf hc1
    refine aRun_ok hC hT 3 (cf' := (7, [(0, .ref 27), (1, .int a1), (2, .int a2)], [.int (6 : Int32), .int a1], LAY, S)) (by rfl) ?_
    refine aCmp_ge hC hT (tgt := 14) rfl (by decide) (fun hc2 => ?_) (fun hc2 => ?_)
    · have hf := aIfT hf hc2
      subst hf
      exact aRetV hC hT hF rfl rfl
    · have hf := aIfF hf hc2
      refine aRun_ok hC hT 3 (cf' := (13, [(0, .ref 27), (1, .int a1), (2, .int a2)], [.int a2, .int a1, .ref 27], LAY, S)) (by rfl) ?_
      refine aIast hC hT rfl (by decide) (by rfl) (aIx_of hc1 hc2 (by decide)) ?_
      subst hf
      exact aRetV hC hT hF rfl rfl
def X7_build_25_b130 (N : Nat) (rec52 : Int32 → Int32 → aSt → Option (aSt)) (v1 : Int32) (v2 : Int32) (S : aSt) : Option (aSt) := (rec52 v1 (v2 + (1 : Int32)) S)
set_option maxHeartbeats 4000000 in
set_option maxRecDepth 100000 in
theorem X7_build_25_b130_ok {C : aC} {N : Nat} {rec52 : Int32 → Int32 → aSt → Option (aSt)} (hC : aCx C M_X7_build) {r : aSt} (hF : aFin C none LAY r 0 0) (hrec52 : ∀ (v1 : Int32) (v2 : Int32) (S : aSt), rec52 v1 v2 S = (some r) → aX C M_X7_build 0 0 (52, [(0, .ref 25), (1, .int v1), (2, .int v2)], [], LAY, S)) (v1 : Int32) (v2 : Int32) (S : aSt) (hf : X7_build_25_b130 N rec52 v1 v2 S = (some r)) : aX C M_X7_build 0 0 (130, [(0, .ref 25), (1, .int v1), (2, .int v2)], [], LAY, S) := by
  have hT := ok_X7_build
  unfold X7_build_25_b130 at hf
  refine aRun_ok hC hT 2 (cf' := (52, [(2, .int (v2 + (1 : Int32))), (0, .ref 25), (1, .int v1)], [], LAY, S)) (by rfl) ?_
  refine aLocs [1, 2, 0] (lv' := [(0, .ref 25), (1, .int v1), (2, .int (v2 + (1 : Int32)))]) rfl ?_
  exact hrec52 v1 (v2 + (1 : Int32)) S hf
def X7_build_25_b90 (N : Nat) (rec52 : Int32 → Int32 → aSt → Option (aSt)) (v1 : Int32) (v2 : Int32) (S : aSt) : Option (aSt) := (aLet (X6_set_26 (S.1 25 0) v2 S) (fun w9 => (aLet (X8_weight_14 v2 w9) (fun w11 => (X7_build_25_b130 N rec52 v1 v2 (aI (aL w9 25 1 ((w9.2.1 25 1) + (w11.toInt64))) 25 0 ((w9.1 25 0) + (1 : Int32))))))))
set_option maxHeartbeats 4000000 in
set_option maxRecDepth 100000 in
theorem X7_build_25_b90_ok {C : aC} {N : Nat} {rec52 : Int32 → Int32 → aSt → Option (aSt)} (hC : aCx C M_X7_build) {r : aSt} (hF : aFin C none LAY r 0 0) (hrec52 : ∀ (v1 : Int32) (v2 : Int32) (S : aSt), rec52 v1 v2 S = (some r) → aX C M_X7_build 0 0 (52, [(0, .ref 25), (1, .int v1), (2, .int v2)], [], LAY, S)) (v1 : Int32) (v2 : Int32) (S : aSt) (hf : X7_build_25_b90 N rec52 v1 v2 S = (some r)) : aX C M_X7_build 0 0 (90, [(0, .ref 25), (1, .int v1), (2, .int v2)], [], LAY, S) := by
  have hT := ok_X7_build
  unfold X7_build_25_b90 at hf
  refine aRun_ok hC hT 5 (cf' := (99, [(0, .ref 25), (1, .int v1), (2, .int v2)], [.int v2, .int (S.1 25 0), .ref 26], LAY, S)) (by rfl) ?_
  obtain ⟨w9, ew10, hf⟩ := aLetE hf
  refine aCallS (As := [.ref 26, .int (S.1 25 0), .int v2]) (rest := []) hC hT rfl k_X7_build_50.1 _ k_X7_build_50.2 (by rfl) (Nat.le_of_ble_eq_true rfl) (by decide) (J_X6_set_26 C.2.2.1 C.1 (S.1 25 0) v2 S ew10) ?_
  refine aRun_ok hC hT 6 (cf' := (112, [(0, .ref 25), (1, .int v1), (2, .int v2)], [.int v2, .ref 14, .long (w9.2.1 25 1), .ref 25], LAY, w9)) (by rfl) ?_
  obtain ⟨w11, ew12, hf⟩ := aLetE hf
  refine aCallV (b := 14) (As := [.int v2]) (rest := [.long (w9.2.1 25 1), .ref 25]) hC hT rfl k_X7_build_64.1 _ _ k_X7_build_64.2 (by decide) (by rfl) (by rfl) (by rfl) (Nat.le_of_ble_eq_true rfl) (by decide) (J_X8_weight_14 C.2.2.1 C.1 v2 w9 ew12) ?_
  refine aRun_ok hC hT 9 (cf' := (130, [(0, .ref 25), (1, .int v1), (2, .int v2)], [], LAY, (aI (aL w9 25 1 ((w9.2.1 25 1) + (w11.toInt64))) 25 0 ((w9.1 25 0) + (1 : Int32))))) (by rfl) ?_
  exact X7_build_25_b130_ok hC hF hrec52 v1 v2 (aI (aL w9 25 1 ((w9.2.1 25 1) + (w11.toInt64))) 25 0 ((w9.1 25 0) + (1 : Int32))) hf
def X7_build_25_b52 (N : Nat) (rec52 : Int32 → Int32 → aSt → Option (aSt)) (v1 : Int32) (v2 : Int32) (S : aSt) : Option (aSt) := (if (S.1 14 0) ≤ v2 then some (S) else (aLet (X8_change_14 v2 S) (fun w5 => (if w5 = v1 then (if (S.1 25 4) = (0 : Int32) then (X7_build_25_b90 N rec52 v1 v2 S) else (Option.bind (X7_leavesNoPageOff_25 N v2 S) (fun w13 => (if w13 = (0 : Int32) then (X7_build_25_b130 N rec52 v1 v2 S) else (X7_build_25_b90 N rec52 v1 v2 S))))) else (X7_build_25_b130 N rec52 v1 v2 S)))))
set_option maxHeartbeats 4000000 in
set_option maxRecDepth 100000 in
theorem X7_build_25_b52_ok {C : aC} {N : Nat} {rec52 : Int32 → Int32 → aSt → Option (aSt)} (hC : aCx C M_X7_build) {r : aSt} (hF : aFin C none LAY r 0 0) (hrec52 : ∀ (v1 : Int32) (v2 : Int32) (S : aSt), rec52 v1 v2 S = (some r) → aX C M_X7_build 0 0 (52, [(0, .ref 25), (1, .int v1), (2, .int v2)], [], LAY, S)) (v1 : Int32) (v2 : Int32) (S : aSt) (hf : X7_build_25_b52 N rec52 v1 v2 S = (some r)) : aX C M_X7_build 0 0 (52, [(0, .ref 25), (1, .int v1), (2, .int v2)], [], LAY, S) := by
  have hT := ok_X7_build
  unfold X7_build_25_b52 at hf
  refine aRun_ok hC hT 4 (cf' := (60, [(0, .ref 25), (1, .int v1), (2, .int v2)], [.int (S.1 14 0), .int v2], LAY, S)) (by rfl) ?_
  refine aCmp_ge hC hT (tgt := 136) rfl (by decide) (fun hc4 => ?_) (fun hc4 => ?_)
  · have hf := aIfT hf hc4
    have e9 := Option.some.inj hf; subst e9
    exact aRetV hC hT hF rfl rfl
  · have hf := aIfF hf hc4
    refine aRun_ok hC hT 3 (cf' := (68, [(0, .ref 25), (1, .int v1), (2, .int v2)], [.int v2, .ref 14], LAY, S)) (by rfl) ?_
    obtain ⟨w5, ew6, hf⟩ := aLetE hf
    refine aCallV (b := 14) (As := [.int v2]) (rest := []) hC hT rfl k_X7_build_57.1 _ _ k_X7_build_57.2 (by decide) (by rfl) (by rfl) (by rfl) (Nat.le_of_ble_eq_true rfl) (by decide) (J_X8_change_14 C.2.2.1 C.1 v2 S ew6) ?_
    refine aRun_ok hC hT 1 (cf' := (72, [(0, .ref 25), (1, .int v1), (2, .int v2)], [.int v1, .int w5], LAY, S)) (by rfl) ?_
    refine aCmp_ne hC hT (tgt := 130) rfl (by decide) (fun hc7 => ?_) (fun hc7 => ?_)
    · have hf := aIfF hf hc7
      exact X7_build_25_b130_ok hC hF hrec52 v1 v2 S hf
    · have hf := aIfT hf hc7
      refine aRun_ok hC hT 2 (cf' := (79, [(0, .ref 25), (1, .int v1), (2, .int v2)], [.int (S.1 25 4)], LAY, S)) (by rfl) ?_
      refine aIf_eq hC hT (tgt := 90) rfl (by decide) (fun hc8 => ?_) (fun hc8 => ?_)
      · have hf := aIfT hf hc8
        exact X7_build_25_b90_ok hC hF hrec52 v1 v2 S hf
      · have hf := aIfF hf hc8
        refine aRun_ok hC hT 2 (cf' := (84, [(0, .ref 25), (1, .int v1), (2, .int v2)], [.int v2, .ref 25], LAY, S)) (by rfl) ?_
        obtain ⟨w13, ew14, hf⟩ := aBnE hf
        refine aCallV (b := 25) (As := [.int v2]) (rest := []) hC hT rfl k_X7_build_60.1 _ _ k_X7_build_60.2 (by decide) (by rfl) (by rfl) (by rfl) (Nat.le_of_ble_eq_true rfl) (by decide) (J_X7_leavesNoPageOff_25 C.2.2.1 C.1 N v2 S ew14) ?_
        refine aIf_eq hC hT (tgt := 130) rfl (by decide) (fun hc15 => ?_) (fun hc15 => ?_)
        · have hf := aIfT hf hc15
          exact X7_build_25_b130_ok hC hF hrec52 v1 v2 S hf
        · have hf := aIfF hf hc15
          exact X7_build_25_b90_ok hC hF hrec52 v1 v2 S hf
def X7_build_25_l52 (N : Nat) : Nat → Int32 → Int32 → aSt → Option (aSt)
  | 0 => fun _ _ _ => none
  | n + 1 => X7_build_25_b52 N (X7_build_25_l52 N n)
theorem X7_build_25_l52_ok {C : aC} {N : Nat} (hC : aCx C M_X7_build) {r : aSt} (hF : aFin C none LAY r 0 0) : ∀ (n : Nat) (v1 : Int32) (v2 : Int32) (S : aSt), X7_build_25_l52 N n v1 v2 S = (some r) → aX C M_X7_build 0 0 (52, [(0, .ref 25), (1, .int v1), (2, .int v2)], [], LAY, S)
  | 0, _, _, _,  h => nomatch (show (none : Option (aSt)) = some _ from h)
  | n + 1, v1, v2, S,  h => X7_build_25_b52_ok hC hF (fun v1 v2 S h => X7_build_25_l52_ok hC hF n v1 v2 S h) v1 v2 S h
def X7_build_25_b40 (N : Nat) (S : aSt) : Option (aSt) := (Option.bind (X2_outOf_8 N ((-1) : Int32) S) (fun w2 => (X7_build_25_l52 N N (-w2) (0 : Int32) S)))
set_option maxHeartbeats 4000000 in
set_option maxRecDepth 100000 in
theorem X7_build_25_b40_ok {C : aC} {N : Nat} (hC : aCx C M_X7_build) {r : aSt} (hF : aFin C none LAY r 0 0) (S : aSt) (hf : X7_build_25_b40 N S = (some r)) : aX C M_X7_build 0 0 (40, [(0, .ref 25)], [], LAY, S) := by
  have hT := ok_X7_build
  unfold X7_build_25_b40 at hf
  refine aRun_ok hC hT 3 (cf' := (45, [(0, .ref 25)], [.int ((-1) : Int32), .ref 8], LAY, S)) (by rfl) ?_
  obtain ⟨w2, ew3, hf⟩ := aBnE hf
  refine aCallV (b := 8) (As := [.int ((-1) : Int32)]) (rest := []) hC hT rfl k_X7_build_44.1 _ _ k_X7_build_44.2 (by decide) (by rfl) (by rfl) (by rfl) (Nat.le_of_ble_eq_true rfl) (by decide) (J_X2_outOf_8 C.2.2.1 C.1 N ((-1) : Int32) S ew3) ?_
  refine aRun_ok hC hT 4 (cf' := (52, [(2, .int (0 : Int32)), (1, .int (-w2)), (0, .ref 25)], [], LAY, S)) (by rfl) ?_
  refine aLocs [2, 1, 0] (lv' := [(0, .ref 25), (1, .int (-w2)), (2, .int (0 : Int32))]) rfl ?_
  exact X7_build_25_l52_ok hC hF N (-w2) (0 : Int32) S hf
def X7_build_25_b12 (N : Nat) (rec12 : Int32 → aSt → Option (aSt)) (v1 : Int32) (S : aSt) : Option (aSt) := (if (6 : Int32) ≤ v1 then (X7_build_25_b40 N S) else (Option.bind (X2_outOf_8 N v1 S) (fun w16 => (aLet (X6_set_27 v1 w16 S) (fun w18 => (rec12 (v1 + (1 : Int32)) w18))))))
set_option maxHeartbeats 4000000 in
set_option maxRecDepth 100000 in
theorem X7_build_25_b12_ok {C : aC} {N : Nat} {rec12 : Int32 → aSt → Option (aSt)} (hC : aCx C M_X7_build) {r : aSt} (hF : aFin C none LAY r 0 0) (hrec12 : ∀ (v1 : Int32) (S : aSt), rec12 v1 S = (some r) → aX C M_X7_build 0 0 (12, [(0, .ref 25), (1, .int v1)], [], LAY, S)) (v1 : Int32) (S : aSt) (hf : X7_build_25_b12 N rec12 v1 S = (some r)) : aX C M_X7_build 0 0 (12, [(0, .ref 25), (1, .int v1)], [], LAY, S) := by
  have hT := ok_X7_build
  unfold X7_build_25_b12 at hf
  refine aRun_ok hC hT 2 (cf' := (15, [(0, .ref 25), (1, .int v1)], [.int (6 : Int32), .int v1], LAY, S)) (by rfl) ?_
  refine aCmp_ge hC hT (tgt := 40) rfl (by decide) (fun hc1 => ?_) (fun hc1 => ?_)
  · have hf := aIfT hf hc1
    refine aLocs [0] (lv' := [(0, .ref 25)]) rfl ?_
    exact X7_build_25_b40_ok hC hF S hf
  · have hf := aIfF hf hc1
    refine aRun_ok hC hT 6 (cf' := (28, [(0, .ref 25), (1, .int v1)], [.int v1, .ref 8, .int v1, .ref 27], LAY, S)) (by rfl) ?_
    obtain ⟨w16, ew17, hf⟩ := aBnE hf
    refine aCallV (b := 8) (As := [.int v1]) (rest := [.int v1, .ref 27]) hC hT rfl k_X7_build_44.1 _ _ k_X7_build_44.2 (by decide) (by rfl) (by rfl) (by rfl) (Nat.le_of_ble_eq_true rfl) (by decide) (J_X2_outOf_8 C.2.2.1 C.1 N v1 S ew17) ?_
    obtain ⟨w18, ew19, hf⟩ := aLetE hf
    refine aCallS (As := [.ref 27, .int v1, .int w16]) (rest := []) hC hT rfl k_X7_build_50.1 _ k_X7_build_50.2 (by rfl) (Nat.le_of_ble_eq_true rfl) (by decide) (J_X6_set_27 C.2.2.1 C.1 v1 w16 S ew19) ?_
    refine aRun_ok hC hT 2 (cf' := (12, [(1, .int (v1 + (1 : Int32))), (0, .ref 25)], [], LAY, w18)) (by rfl) ?_
    refine aLocs [1, 0] (lv' := [(0, .ref 25), (1, .int (v1 + (1 : Int32)))]) rfl ?_
    exact hrec12 (v1 + (1 : Int32)) w18 hf
def X7_build_25_l12 (N : Nat) : Nat → Int32 → aSt → Option (aSt)
  | 0 => fun _ _ => none
  | n + 1 => X7_build_25_b12 N (X7_build_25_l12 N n)
theorem X7_build_25_l12_ok {C : aC} {N : Nat} (hC : aCx C M_X7_build) {r : aSt} (hF : aFin C none LAY r 0 0) : ∀ (n : Nat) (v1 : Int32) (S : aSt), X7_build_25_l12 N n v1 S = (some r) → aX C M_X7_build 0 0 (12, [(0, .ref 25), (1, .int v1)], [], LAY, S)
  | 0, _, _,  h => nomatch (show (none : Option (aSt)) = some _ from h)
  | n + 1, v1, S,  h => X7_build_25_b12_ok hC hF (fun v1 S h => X7_build_25_l12_ok hC hF n v1 S h) v1 S h
def X7_build_25 (N : Nat) (S : aSt) : Option (aSt) := (X7_build_25_l12 N N (0 : Int32) (aL (aI S 25 0 (0 : Int32)) 25 1 (0 : Int64)))
set_option maxHeartbeats 4000000 in
set_option maxRecDepth 100000 in
theorem J_X7_build_25 (l : Launch) (g : aWg) (N : Nat) (S : aSt) {r : aSt} (hf : X7_build_25 N S = (some r)) : aJ l g yX7_build M_X7_build [.ref 25] LAY S none LAY r 0 0 := by
  refine aJ_of (by decide +kernel) rfl (Nat.le_of_ble_eq_true rfl) (fun h => nomatch h) ?_
  intro C hg hl hC hz hF
  subst hg; subst hl
  have hT := ok_X7_build
  unfold X7_build_25 at hf
  show aX C M_X7_build 0 0 (0, [(0, .ref 25)], [], LAY, S)
  refine aRun_ok hC hT 8 (cf' := (12, [(1, .int (0 : Int32)), (0, .ref 25)], [], LAY, (aL (aI S 25 0 (0 : Int32)) 25 1 (0 : Int64)))) (by rfl) ?_
  refine aLocs [1, 0] (lv' := [(0, .ref 25), (1, .int (0 : Int32))]) rfl ?_
  exact X7_build_25_l12_ok hC hF N (0 : Int32) (aL (aI S 25 0 (0 : Int32)) 25 1 (0 : Int64)) hf
def X8_chainOf_14 (N : Nat) (a1 : Int32) (S : aSt) : Option (Int32) := (Option.bind (J9_floorMod_7cf53 N a1 (1021 : Int32)) (fun w1 => (aLet (X6_at_20 w1 S) (fun w3 => some (w3)))))
set_option maxHeartbeats 4000000 in
set_option maxRecDepth 100000 in
theorem J_X8_chainOf_14 (l : Launch) (g : aWg) (N : Nat) (a1 : Int32) (S : aSt) {r : Int32} (hf : X8_chainOf_14 N a1 S = (some r)) : aJ l g yX8_chainOf M_X8_chainOf [.ref 14, .int a1] LAY S (some (.int r)) LAY S 0 0 := by
  refine aJ_of (by decide +kernel) rfl (Nat.le_of_ble_eq_true rfl) (fun h => nomatch h) ?_
  intro C hg hl hC hz hF
  subst hg; subst hl
  have hT := ok_X8_chainOf
  unfold X8_chainOf_14 at hf
  show aX C M_X8_chainOf 0 0 (0, [(0, .ref 14), (1, .int a1)], [], LAY, S)
  refine aRun_ok hC hT 4 (cf' := (8, [(0, .ref 14), (1, .int a1)], [.int (1021 : Int32), .int a1, .ref 20], LAY, S)) (by rfl) ?_
  obtain ⟨w1, ew2, hf⟩ := aBnE hf
  refine aCallS (As := [.int a1, .int (1021 : Int32)]) (rest := [.ref 20]) hC hT rfl k_X8_chainOf_63.1 _ k_X8_chainOf_63.2 (by rfl) (Nat.le_of_ble_eq_true rfl) (by decide) (J_J9_floorMod_7cf53 C.2.2.1 C.1 N a1 (1021 : Int32) S ew2) ?_
  obtain ⟨w3, ew4, hf⟩ := aLetE hf
  refine aCallS (As := [.ref 20, .int w1]) (rest := []) hC hT rfl k_X8_chainOf_37.1 _ k_X8_chainOf_37.2 (by rfl) (Nat.le_of_ble_eq_true rfl) (by decide) (J_X6_at_20 C.2.2.1 C.1 w1 S ew4) ?_
  have e9 := Option.some.inj hf; subst e9
  exact aRetI hC hT hF rfl rfl
def X6_at_21 (a1 : Int32) (S : aSt) : Int32 := (if a1 < (0 : Int32) then (0 : Int32) else (if (1921 : Int32) ≤ a1 then (0 : Int32) else ((S.2.2 21) a1.toNatClampNeg)))
set_option maxHeartbeats 4000000 in
set_option maxRecDepth 100000 in
theorem J_X6_at_21 (l : Launch) (g : aWg) (a1 : Int32) (S : aSt) {r : Int32} (hf : X6_at_21 a1 S = r) : aJ l g yX6_at M_X6_at [.ref 21, .int a1] LAY S (some (.int r)) LAY S 0 0 := by
  refine aJ_of (by decide +kernel) rfl (Nat.le_of_ble_eq_true rfl) (fun h => nomatch h) ?_
  intro C hg hl hC hz hF
  subst hg; subst hl
  have hT := ok_X6_at
  unfold X6_at_21 at hf
  show aX C M_X6_at 0 0 (0, [(0, .ref 21), (1, .int a1)], [], LAY, S)
  refine aRun_ok hC hT 1 (cf' := (1, [(0, .ref 21), (1, .int a1)], [.int a1], LAY, S)) (by rfl) ?_
  refine aIf_lt hC hT (tgt := 16) rfl (by decide) (fun hc1 => ?_) (fun hc1 => ?_)
  · have hf := aIfT hf hc1
    refine aRun_ok hC hT 1 (cf' := (17, [(0, .ref 21), (1, .int a1)], [.int (0 : Int32)], LAY, S)) (by rfl) ?_
    subst hf
    exact aRetI hC hT hF rfl rfl
  · have hf := aIfF hf hc1
    refine aRun_ok hC hT 3 (cf' := (7, [(0, .ref 21), (1, .int a1)], [.int (1921 : Int32), .int a1], LAY, S)) (by rfl) ?_
    refine aCmp_ge hC hT (tgt := 16) rfl (by decide) (fun hc2 => ?_) (fun hc2 => ?_)
    · have hf := aIfT hf hc2
      refine aRun_ok hC hT 1 (cf' := (17, [(0, .ref 21), (1, .int a1)], [.int (0 : Int32)], LAY, S)) (by rfl) ?_
      subst hf
      exact aRetI hC hT hF rfl rfl
    · have hf := aIfF hf hc2
      refine aRun_ok hC hT 2 (cf' := (12, [(0, .ref 21), (1, .int a1)], [.int a1, .ref 21], LAY, S)) (by rfl) ?_
      refine aIald hC hT rfl (by decide) (by rfl) (aIx_of hc1 hc2 (by decide)) ?_
      refine aRun_ok hC hT 1 (cf' := (17, [(0, .ref 21), (1, .int a1)], [.int ((S.2.2 21) a1.toNatClampNeg)], LAY, S)) (by rfl) ?_
      subst hf
      exact aRetI hC hT hF rfl rfl
def X8_nextInChain_14 (a1 : Int32) (S : aSt) : Int32 := (aLet (X6_at_21 a1 S) (fun w1 => w1))
set_option maxHeartbeats 4000000 in
set_option maxRecDepth 100000 in
theorem J_X8_nextInChain_14 (l : Launch) (g : aWg) (a1 : Int32) (S : aSt) {r : Int32} (hf : X8_nextInChain_14 a1 S = r) : aJ l g yX8_nextInChain M_X8_nextInChain [.ref 14, .int a1] LAY S (some (.int r)) LAY S 0 0 := by
  refine aJ_of (by decide +kernel) rfl (Nat.le_of_ble_eq_true rfl) (fun h => nomatch h) ?_
  intro C hg hl hC hz hF
  subst hg; subst hl
  have hT := ok_X8_nextInChain
  unfold X8_nextInChain_14 at hf
  show aX C M_X8_nextInChain 0 0 (0, [(0, .ref 14), (1, .int a1)], [], LAY, S)
  refine aRun_ok hC hT 3 (cf' := (5, [(0, .ref 14), (1, .int a1)], [.int a1, .ref 21], LAY, S)) (by rfl) ?_
  obtain ⟨w1, ew2, hf⟩ := aLetE hf
  refine aCallS (As := [.ref 21, .int a1]) (rest := []) hC hT rfl k_X8_nextInChain_37.1 _ k_X8_nextInChain_37.2 (by rfl) (Nat.le_of_ble_eq_true rfl) (by decide) (J_X6_at_21 C.2.2.1 C.1 a1 S ew2) ?_
  subst hf
  exact aRetI hC hT hF rfl rfl
def X8_standApart_14_b30 (S : aSt) (v1 : Int32) (v2 : Int32) (s0 : Int32) (s1 : Int32) : Int32 := (if s1 = s0 then (aLet (X8_place_14 v1 S) (fun w8 => (aLet (X8_place_14 v2 S) (fun w10 => (if w8 = w10 then (0 : Int32) else (1 : Int32)))))) else (1 : Int32))
set_option maxHeartbeats 4000000 in
set_option maxRecDepth 100000 in
theorem X8_standApart_14_b30_ok {C : aC} {S : aSt} (hC : aCx C M_X8_standApart) {r : Int32} (hF : aFin C (some (.int r)) LAY S 0 0) (v1 : Int32) (v2 : Int32) (s0 : Int32) (s1 : Int32) (hf : X8_standApart_14_b30 S v1 v2 s0 s1 = r) : aX C M_X8_standApart 0 0 (30, [(0, .ref 14), (1, .int v1), (2, .int v2)], [.int s0, .int s1], LAY, S) := by
  have hT := ok_X8_standApart
  unfold X8_standApart_14_b30 at hf
  refine aCmp_ne hC hT (tgt := 46) rfl (by decide) (fun hc7 => ?_) (fun hc7 => ?_)
  · have hf := aIfF hf hc7
    refine aRun_ok hC hT 2 (cf' := (51, [(0, .ref 14), (1, .int v1), (2, .int v2)], [.int (1 : Int32)], LAY, S)) (by rfl) ?_
    subst hf
    exact aRetB hC hT hF rfl (Or.inr rfl) rfl
  · have hf := aIfT hf hc7
    refine aRun_ok hC hT 2 (cf' := (35, [(0, .ref 14), (1, .int v1), (2, .int v2)], [.int v1, .ref 14], LAY, S)) (by rfl) ?_
    obtain ⟨w8, ew9, hf⟩ := aLetE hf
    refine aCallV (b := 14) (As := [.int v1]) (rest := []) hC hT rfl k_X8_standApart_47.1 _ _ k_X8_standApart_47.2 (by decide) (by rfl) (by rfl) (by rfl) (Nat.le_of_ble_eq_true rfl) (by decide) (J_X8_place_14 C.2.2.1 C.1 v1 S ew9) ?_
    refine aRun_ok hC hT 2 (cf' := (40, [(0, .ref 14), (1, .int v1), (2, .int v2)], [.int v2, .ref 14, .int w8], LAY, S)) (by rfl) ?_
    obtain ⟨w10, ew11, hf⟩ := aLetE hf
    refine aCallV (b := 14) (As := [.int v2]) (rest := [.int w8]) hC hT rfl k_X8_standApart_47.1 _ _ k_X8_standApart_47.2 (by decide) (by rfl) (by rfl) (by rfl) (Nat.le_of_ble_eq_true rfl) (by decide) (J_X8_place_14 C.2.2.1 C.1 v2 S ew11) ?_
    refine aCmp_eq hC hT (tgt := 50) rfl (by decide) (fun hc12 => ?_) (fun hc12 => ?_)
    · have hf := aIfT hf hc12
      refine aRun_ok hC hT 1 (cf' := (51, [(0, .ref 14), (1, .int v1), (2, .int v2)], [.int (0 : Int32)], LAY, S)) (by rfl) ?_
      subst hf
      exact aRetB hC hT hF rfl (Or.inl rfl) rfl
    · have hf := aIfF hf hc12
      refine aRun_ok hC hT 2 (cf' := (51, [(0, .ref 14), (1, .int v1), (2, .int v2)], [.int (1 : Int32)], LAY, S)) (by rfl) ?_
      subst hf
      exact aRetB hC hT hF rfl (Or.inr rfl) rfl
def X8_standApart_14_b15 (S : aSt) (v1 : Int32) (v2 : Int32) (s0 : Int32) : Int32 := (aLet (X8_kind_14 v2 S) (fun w4 => (if w4 = (6 : Int32) then (X8_standApart_14_b30 S v1 v2 (1 : Int32) s0) else (X8_standApart_14_b30 S v1 v2 (0 : Int32) s0))))
set_option maxHeartbeats 4000000 in
set_option maxRecDepth 100000 in
theorem X8_standApart_14_b15_ok {C : aC} {S : aSt} (hC : aCx C M_X8_standApart) {r : Int32} (hF : aFin C (some (.int r)) LAY S 0 0) (v1 : Int32) (v2 : Int32) (s0 : Int32) (hf : X8_standApart_14_b15 S v1 v2 s0 = r) : aX C M_X8_standApart 0 0 (15, [(0, .ref 14), (1, .int v1), (2, .int v2)], [.int s0], LAY, S) := by
  have hT := ok_X8_standApart
  unfold X8_standApart_14_b15 at hf
  refine aRun_ok hC hT 2 (cf' := (17, [(0, .ref 14), (1, .int v1), (2, .int v2)], [.int v2, .ref 14, .int s0], LAY, S)) (by rfl) ?_
  obtain ⟨w4, ew5, hf⟩ := aLetE hf
  refine aCallV (b := 14) (As := [.int v2]) (rest := [.int s0]) hC hT rfl k_X8_standApart_43.1 _ _ k_X8_standApart_43.2 (by decide) (by rfl) (by rfl) (by rfl) (Nat.le_of_ble_eq_true rfl) (by decide) (J_X8_kind_14 C.2.2.1 C.1 v2 S ew5) ?_
  refine aRun_ok hC hT 1 (cf' := (22, [(0, .ref 14), (1, .int v1), (2, .int v2)], [.int (6 : Int32), .int w4, .int s0], LAY, S)) (by rfl) ?_
  refine aCmp_ne hC hT (tgt := 29) rfl (by decide) (fun hc6 => ?_) (fun hc6 => ?_)
  · have hf := aIfF hf hc6
    refine aRun_ok hC hT 1 (cf' := (30, [(0, .ref 14), (1, .int v1), (2, .int v2)], [.int (0 : Int32), .int s0], LAY, S)) (by rfl) ?_
    exact X8_standApart_14_b30_ok hC hF v1 v2 (0 : Int32) s0 hf
  · have hf := aIfT hf hc6
    refine aRun_ok hC hT 2 (cf' := (30, [(0, .ref 14), (1, .int v1), (2, .int v2)], [.int (1 : Int32), .int s0], LAY, S)) (by rfl) ?_
    exact X8_standApart_14_b30_ok hC hF v1 v2 (1 : Int32) s0 hf
def X8_standApart_14 (a1 : Int32) (a2 : Int32) (S : aSt) : Int32 := (aLet (X8_kind_14 a1 S) (fun w1 => (if w1 = (6 : Int32) then (X8_standApart_14_b15 S a1 a2 (1 : Int32)) else (X8_standApart_14_b15 S a1 a2 (0 : Int32)))))
set_option maxHeartbeats 4000000 in
set_option maxRecDepth 100000 in
theorem J_X8_standApart_14 (l : Launch) (g : aWg) (a1 : Int32) (a2 : Int32) (S : aSt) {r : Int32} (hf : X8_standApart_14 a1 a2 S = r) : aJ l g yX8_standApart M_X8_standApart [.ref 14, .int a1, .int a2] LAY S (some (.int r)) LAY S 0 0 := by
  refine aJ_of (by decide +kernel) rfl (Nat.le_of_ble_eq_true rfl) (fun h => nomatch h) ?_
  intro C hg hl hC hz hF
  subst hg; subst hl
  have hT := ok_X8_standApart
  unfold X8_standApart_14 at hf
  show aX C M_X8_standApart 0 0 (0, [(0, .ref 14), (1, .int a1), (2, .int a2)], [], LAY, S)
  refine aRun_ok hC hT 2 (cf' := (2, [(0, .ref 14), (1, .int a1), (2, .int a2)], [.int a1, .ref 14], LAY, S)) (by rfl) ?_
  obtain ⟨w1, ew2, hf⟩ := aLetE hf
  refine aCallV (b := 14) (As := [.int a1]) (rest := []) hC hT rfl k_X8_standApart_43.1 _ _ k_X8_standApart_43.2 (by decide) (by rfl) (by rfl) (by rfl) (Nat.le_of_ble_eq_true rfl) (by decide) (J_X8_kind_14 C.2.2.1 C.1 a1 S ew2) ?_
  refine aRun_ok hC hT 1 (cf' := (7, [(0, .ref 14), (1, .int a1), (2, .int a2)], [.int (6 : Int32), .int w1], LAY, S)) (by rfl) ?_
  refine aCmp_ne hC hT (tgt := 14) rfl (by decide) (fun hc3 => ?_) (fun hc3 => ?_)
  · have hf := aIfF hf hc3
    refine aRun_ok hC hT 1 (cf' := (15, [(0, .ref 14), (1, .int a1), (2, .int a2)], [.int (0 : Int32)], LAY, S)) (by rfl) ?_
    exact X8_standApart_14_b15_ok hC hF a1 a2 (0 : Int32) hf
  · have hf := aIfT hf hc3
    refine aRun_ok hC hT 2 (cf' := (15, [(0, .ref 14), (1, .int a1), (2, .int a2)], [.int (1 : Int32)], LAY, S)) (by rfl) ?_
    exact X8_standApart_14_b15_ok hC hF a1 a2 (1 : Int32) hf
def X5_take_28 (a1 : Int32) (a2 : Int32) (S : aSt) : aSt := (aLet (X8_weight_14 a1 S) (fun w1 => (aLet (X8_weight_14 a2 S) (fun w3 => (if (lg_cmp ((w1.toInt64) * (w3.toInt64)) (S.2.1 28 4)) ≤ (0 : Int32) then (aL (aL S 28 0 ((S.2.1 28 0) + (1 : Int64))) 28 1 ((S.2.1 28 1) + ((w1.toInt64) * (w3.toInt64)))) else (aI (aI (aL (aL (aL S 28 0 ((S.2.1 28 0) + (1 : Int64))) 28 1 ((S.2.1 28 1) + ((w1.toInt64) * (w3.toInt64)))) 28 4 ((w1.toInt64) * (w3.toInt64))) 28 2 a1) 28 3 a2))))))
set_option maxHeartbeats 4000000 in
set_option maxRecDepth 100000 in
theorem J_X5_take_28 (l : Launch) (g : aWg) (a1 : Int32) (a2 : Int32) (S : aSt) {r : aSt} (hf : X5_take_28 a1 a2 S = r) : aJ l g yX5_take M_X5_take [.ref 28, .int a1, .int a2] LAY S none LAY r 0 0 := by
  refine aJ_of (by decide +kernel) rfl (Nat.le_of_ble_eq_true rfl) (fun h => nomatch h) ?_
  intro C hg hl hC hz hF
  subst hg; subst hl
  have hT := ok_X5_take
  unfold X5_take_28 at hf
  show aX C M_X5_take 0 0 (0, [(0, .ref 28), (1, .int a1), (2, .int a2)], [], LAY, S)
  refine aRun_ok hC hT 3 (cf' := (5, [(0, .ref 28), (1, .int a1), (2, .int a2)], [.int a1, .ref 14], LAY, S)) (by rfl) ?_
  obtain ⟨w1, ew2, hf⟩ := aLetE hf
  refine aCallV (b := 14) (As := [.int a1]) (rest := []) hC hT rfl k_X5_take_55.1 _ _ k_X5_take_55.2 (by decide) (by rfl) (by rfl) (by rfl) (Nat.le_of_ble_eq_true rfl) (by decide) (J_X8_weight_14 C.2.2.1 C.1 a1 S ew2) ?_
  refine aRun_ok hC hT 4 (cf' := (14, [(0, .ref 28), (1, .int a1), (2, .int a2)], [.int a2, .ref 14, .long (w1.toInt64)], LAY, S)) (by rfl) ?_
  obtain ⟨w3, ew4, hf⟩ := aLetE hf
  refine aCallV (b := 14) (As := [.int a2]) (rest := [.long (w1.toInt64)]) hC hT rfl k_X5_take_55.1 _ _ k_X5_take_55.2 (by decide) (by rfl) (by rfl) (by rfl) (Nat.le_of_ble_eq_true rfl) (by decide) (J_X8_weight_14 C.2.2.1 C.1 a2 S ew4) ?_
  refine aRun_ok hC hT 19 (cf' := (46, [(3, .long ((w1.toInt64) * (w3.toInt64))), (0, .ref 28), (1, .int a1), (2, .int a2)], [.int (lg_cmp ((w1.toInt64) * (w3.toInt64)) (S.2.1 28 4))], LAY, (aL (aL S 28 0 ((S.2.1 28 0) + (1 : Int64))) 28 1 ((S.2.1 28 1) + ((w1.toInt64) * (w3.toInt64)))))) (by rfl) ?_
  refine aIf_le hC hT (tgt := 64) rfl (by decide) (fun hc5 => ?_) (fun hc5 => ?_)
  · have hf := aIfT hf hc5
    subst hf
    exact aRetV hC hT hF rfl rfl
  · have hf := aIfF hf hc5
    refine aRun_ok hC hT 9 (cf' := (64, [(3, .long ((w1.toInt64) * (w3.toInt64))), (0, .ref 28), (1, .int a1), (2, .int a2)], [], LAY, (aI (aI (aL (aL (aL S 28 0 ((S.2.1 28 0) + (1 : Int64))) 28 1 ((S.2.1 28 1) + ((w1.toInt64) * (w3.toInt64)))) 28 4 ((w1.toInt64) * (w3.toInt64))) 28 2 a1) 28 3 a2))) (by rfl) ?_
    subst hf
    exact aRetV hC hT hF rfl rfl
def X5_findWith_28_b72 (N : Nat) (rec12 : Int32 → Int32 → Int32 → Int32 → aSt → Option (aSt)) (v1 : Int32) (v2 : Int32) (v3 : Int32) (v4 : Int32) (S : aSt) : Option (aSt) := (aLet (X8_nextInChain_14 v3 S) (fun w6 => (rec12 v1 v2 w6 (v4 + (1 : Int32)) S)))
set_option maxHeartbeats 4000000 in
set_option maxRecDepth 100000 in
theorem X5_findWith_28_b72_ok {C : aC} {N : Nat} {rec12 : Int32 → Int32 → Int32 → Int32 → aSt → Option (aSt)} (hC : aCx C M_X5_findWith) {r : aSt} (hF : aFin C none LAY r 0 0) (hrec12 : ∀ (v1 : Int32) (v2 : Int32) (v3 : Int32) (v4 : Int32) (S : aSt), rec12 v1 v2 v3 v4 S = (some r) → aX C M_X5_findWith 0 0 (12, [(0, .ref 28), (1, .int v1), (2, .int v2), (3, .int v3), (4, .int v4)], [], LAY, S)) (v1 : Int32) (v2 : Int32) (v3 : Int32) (v4 : Int32) (S : aSt) (hf : X5_findWith_28_b72 N rec12 v1 v2 v3 v4 S = (some r)) : aX C M_X5_findWith 0 0 (72, [(0, .ref 28), (1, .int v1), (2, .int v2), (3, .int v3), (4, .int v4)], [], LAY, S) := by
  have hT := ok_X5_findWith
  unfold X5_findWith_28_b72 at hf
  refine aRun_ok hC hT 3 (cf' := (77, [(0, .ref 28), (1, .int v1), (2, .int v2), (3, .int v3), (4, .int v4)], [.int v3, .ref 14], LAY, S)) (by rfl) ?_
  obtain ⟨w6, ew7, hf⟩ := aLetE hf
  refine aCallV (b := 14) (As := [.int v3]) (rest := []) hC hT rfl k_X5_findWith_52.1 _ _ k_X5_findWith_52.2 (by decide) (by rfl) (by rfl) (by rfl) (Nat.le_of_ble_eq_true rfl) (by decide) (J_X8_nextInChain_14 C.2.2.1 C.1 v3 S ew7) ?_
  refine aRun_ok hC hT 3 (cf' := (12, [(4, .int (v4 + (1 : Int32))), (3, .int w6), (0, .ref 28), (1, .int v1), (2, .int v2)], [], LAY, S)) (by rfl) ?_
  refine aLocs [2, 3, 4, 1, 0] (lv' := [(0, .ref 28), (1, .int v1), (2, .int v2), (3, .int w6), (4, .int (v4 + (1 : Int32)))]) rfl ?_
  exact hrec12 v1 v2 w6 (v4 + (1 : Int32)) S hf
def X5_findWith_28_b12 (N : Nat) (rec12 : Int32 → Int32 → Int32 → Int32 → aSt → Option (aSt)) (v1 : Int32) (v2 : Int32) (v3 : Int32) (v4 : Int32) (S : aSt) : Option (aSt) := (if v3 = ((-1) : Int32) then some (S) else (if (1921 : Int32) ≤ v4 then some (S) else (if v3 ≤ v1 then (X5_findWith_28_b72 N rec12 v1 v2 v3 v4 S) else (aLet (X8_change_14 v3 S) (fun w8 => (if w8 = v2 then (aLet (X8_kind_14 v3 S) (fun w11 => (if w11 = (5 : Int32) then (X5_findWith_28_b72 N rec12 v1 v2 v3 v4 S) else (aLet (X8_standApart_14 v1 v3 S) (fun w14 => (if w14 = (0 : Int32) then (X5_findWith_28_b72 N rec12 v1 v2 v3 v4 S) else (aLet (X5_take_28 v1 v3 S) (fun w17 => (X5_findWith_28_b72 N rec12 v1 v2 v3 v4 w17))))))))) else (X5_findWith_28_b72 N rec12 v1 v2 v3 v4 S)))))))
set_option maxHeartbeats 4000000 in
set_option maxRecDepth 100000 in
theorem X5_findWith_28_b12_ok {C : aC} {N : Nat} {rec12 : Int32 → Int32 → Int32 → Int32 → aSt → Option (aSt)} (hC : aCx C M_X5_findWith) {r : aSt} (hF : aFin C none LAY r 0 0) (hrec12 : ∀ (v1 : Int32) (v2 : Int32) (v3 : Int32) (v4 : Int32) (S : aSt), rec12 v1 v2 v3 v4 S = (some r) → aX C M_X5_findWith 0 0 (12, [(0, .ref 28), (1, .int v1), (2, .int v2), (3, .int v3), (4, .int v4)], [], LAY, S)) (v1 : Int32) (v2 : Int32) (v3 : Int32) (v4 : Int32) (S : aSt) (hf : X5_findWith_28_b12 N rec12 v1 v2 v3 v4 S = (some r)) : aX C M_X5_findWith 0 0 (12, [(0, .ref 28), (1, .int v1), (2, .int v2), (3, .int v3), (4, .int v4)], [], LAY, S) := by
  have hT := ok_X5_findWith
  unfold X5_findWith_28_b12 at hf
  refine aRun_ok hC hT 2 (cf' := (14, [(0, .ref 28), (1, .int v1), (2, .int v2), (3, .int v3), (4, .int v4)], [.int ((-1) : Int32), .int v3], LAY, S)) (by rfl) ?_
  refine aCmp_eq hC hT (tgt := 87) rfl (by decide) (fun hc3 => ?_) (fun hc3 => ?_)
  · have hf := aIfT hf hc3
    have e9 := Option.some.inj hf; subst e9
    exact aRetV hC hT hF rfl rfl
  · have hf := aIfF hf hc3
    refine aRun_ok hC hT 2 (cf' := (22, [(0, .ref 28), (1, .int v1), (2, .int v2), (3, .int v3), (4, .int v4)], [.int (1921 : Int32), .int v4], LAY, S)) (by rfl) ?_
    refine aCmp_ge hC hT (tgt := 87) rfl (by decide) (fun hc4 => ?_) (fun hc4 => ?_)
    · have hf := aIfT hf hc4
      have e9 := Option.some.inj hf; subst e9
      exact aRetV hC hT hF rfl rfl
    · have hf := aIfF hf hc4
      refine aRun_ok hC hT 2 (cf' := (27, [(0, .ref 28), (1, .int v1), (2, .int v2), (3, .int v3), (4, .int v4)], [.int v1, .int v3], LAY, S)) (by rfl) ?_
      refine aCmp_le hC hT (tgt := 72) rfl (by decide) (fun hc5 => ?_) (fun hc5 => ?_)
      · have hf := aIfT hf hc5
        exact X5_findWith_28_b72_ok hC hF hrec12 v1 v2 v3 v4 S hf
      · have hf := aIfF hf hc5
        refine aRun_ok hC hT 3 (cf' := (35, [(0, .ref 28), (1, .int v1), (2, .int v2), (3, .int v3), (4, .int v4)], [.int v3, .ref 14], LAY, S)) (by rfl) ?_
        obtain ⟨w8, ew9, hf⟩ := aLetE hf
        refine aCallV (b := 14) (As := [.int v3]) (rest := []) hC hT rfl k_X5_findWith_35.1 _ _ k_X5_findWith_35.2 (by decide) (by rfl) (by rfl) (by rfl) (Nat.le_of_ble_eq_true rfl) (by decide) (J_X8_change_14 C.2.2.1 C.1 v3 S ew9) ?_
        refine aRun_ok hC hT 1 (cf' := (39, [(0, .ref 28), (1, .int v1), (2, .int v2), (3, .int v3), (4, .int v4)], [.int v2, .int w8], LAY, S)) (by rfl) ?_
        refine aCmp_ne hC hT (tgt := 72) rfl (by decide) (fun hc10 => ?_) (fun hc10 => ?_)
        · have hf := aIfF hf hc10
          exact X5_findWith_28_b72_ok hC hF hrec12 v1 v2 v3 v4 S hf
        · have hf := aIfT hf hc10
          refine aRun_ok hC hT 3 (cf' := (47, [(0, .ref 28), (1, .int v1), (2, .int v2), (3, .int v3), (4, .int v4)], [.int v3, .ref 14], LAY, S)) (by rfl) ?_
          obtain ⟨w11, ew12, hf⟩ := aLetE hf
          refine aCallV (b := 14) (As := [.int v3]) (rest := []) hC hT rfl k_X5_findWith_31.1 _ _ k_X5_findWith_31.2 (by decide) (by rfl) (by rfl) (by rfl) (Nat.le_of_ble_eq_true rfl) (by decide) (J_X8_kind_14 C.2.2.1 C.1 v3 S ew12) ?_
          refine aRun_ok hC hT 1 (cf' := (51, [(0, .ref 28), (1, .int v1), (2, .int v2), (3, .int v3), (4, .int v4)], [.int (5 : Int32), .int w11], LAY, S)) (by rfl) ?_
          refine aCmp_eq hC hT (tgt := 72) rfl (by decide) (fun hc13 => ?_) (fun hc13 => ?_)
          · have hf := aIfT hf hc13
            exact X5_findWith_28_b72_ok hC hF hrec12 v1 v2 v3 v4 S hf
          · have hf := aIfF hf hc13
            refine aRun_ok hC hT 4 (cf' := (60, [(0, .ref 28), (1, .int v1), (2, .int v2), (3, .int v3), (4, .int v4)], [.int v3, .int v1, .ref 14], LAY, S)) (by rfl) ?_
            obtain ⟨w14, ew15, hf⟩ := aLetE hf
            refine aCallV (b := 14) (As := [.int v1, .int v3]) (rest := []) hC hT rfl k_X5_findWith_45.1 _ _ k_X5_findWith_45.2 (by decide) (by rfl) (by rfl) (by rfl) (Nat.le_of_ble_eq_true rfl) (by decide) (J_X8_standApart_14 C.2.2.1 C.1 v1 v3 S ew15) ?_
            refine aIf_eq hC hT (tgt := 72) rfl (by decide) (fun hc16 => ?_) (fun hc16 => ?_)
            · have hf := aIfT hf hc16
              exact X5_findWith_28_b72_ok hC hF hrec12 v1 v2 v3 v4 S hf
            · have hf := aIfF hf hc16
              refine aRun_ok hC hT 3 (cf' := (69, [(0, .ref 28), (1, .int v1), (2, .int v2), (3, .int v3), (4, .int v4)], [.int v3, .int v1, .ref 28], LAY, S)) (by rfl) ?_
              obtain ⟨w17, ew18, hf⟩ := aLetE hf
              refine aCallV (b := 28) (As := [.int v1, .int v3]) (rest := []) hC hT rfl k_X5_findWith_49.1 _ _ k_X5_findWith_49.2 (by decide) (by rfl) (by rfl) (by rfl) (Nat.le_of_ble_eq_true rfl) (by decide) (J_X5_take_28 C.2.2.1 C.1 v1 v3 S ew18) ?_
              exact X5_findWith_28_b72_ok hC hF hrec12 v1 v2 v3 v4 w17 hf
def X5_findWith_28_l12 (N : Nat) : Nat → Int32 → Int32 → Int32 → Int32 → aSt → Option (aSt)
  | 0 => fun _ _ _ _ _ => none
  | n + 1 => X5_findWith_28_b12 N (X5_findWith_28_l12 N n)
theorem X5_findWith_28_l12_ok {C : aC} {N : Nat} (hC : aCx C M_X5_findWith) {r : aSt} (hF : aFin C none LAY r 0 0) : ∀ (n : Nat) (v1 : Int32) (v2 : Int32) (v3 : Int32) (v4 : Int32) (S : aSt), X5_findWith_28_l12 N n v1 v2 v3 v4 S = (some r) → aX C M_X5_findWith 0 0 (12, [(0, .ref 28), (1, .int v1), (2, .int v2), (3, .int v3), (4, .int v4)], [], LAY, S)
  | 0, _, _, _, _, _,  h => nomatch (show (none : Option (aSt)) = some _ from h)
  | n + 1, v1, v2, v3, v4, S,  h => X5_findWith_28_b12_ok hC hF (fun v1 v2 v3 v4 S h => X5_findWith_28_l12_ok hC hF n v1 v2 v3 v4 S h) v1 v2 v3 v4 S h
def X5_findWith_28 (N : Nat) (a1 : Int32) (a2 : Int32) (S : aSt) : Option (aSt) := (Option.bind (X8_chainOf_14 N a2 S) (fun w1 => (X5_findWith_28_l12 N N a1 a2 w1 (0 : Int32) S)))
set_option maxHeartbeats 4000000 in
set_option maxRecDepth 100000 in
theorem J_X5_findWith_28 (l : Launch) (g : aWg) (N : Nat) (a1 : Int32) (a2 : Int32) (S : aSt) {r : aSt} (hf : X5_findWith_28 N a1 a2 S = (some r)) : aJ l g yX5_findWith M_X5_findWith [.ref 28, .int a1, .int a2] LAY S none LAY r 0 0 := by
  refine aJ_of (by decide +kernel) rfl (Nat.le_of_ble_eq_true rfl) (fun h => nomatch h) ?_
  intro C hg hl hC hz hF
  subst hg; subst hl
  have hT := ok_X5_findWith
  unfold X5_findWith_28 at hf
  show aX C M_X5_findWith 0 0 (0, [(0, .ref 28), (1, .int a1), (2, .int a2)], [], LAY, S)
  refine aRun_ok hC hT 3 (cf' := (5, [(0, .ref 28), (1, .int a1), (2, .int a2)], [.int a2, .ref 14], LAY, S)) (by rfl) ?_
  obtain ⟨w1, ew2, hf⟩ := aBnE hf
  refine aCallV (b := 14) (As := [.int a2]) (rest := []) hC hT rfl k_X5_findWith_42.1 _ _ k_X5_findWith_42.2 (by decide) (by rfl) (by rfl) (by rfl) (Nat.le_of_ble_eq_true rfl) (by decide) (J_X8_chainOf_14 C.2.2.1 C.1 N a2 S ew2) ?_
  refine aRun_ok hC hT 3 (cf' := (12, [(4, .int (0 : Int32)), (3, .int w1), (0, .ref 28), (1, .int a1), (2, .int a2)], [], LAY, S)) (by rfl) ?_
  refine aLocs [2, 3, 4, 1, 0] (lv' := [(0, .ref 28), (1, .int a1), (2, .int a2), (3, .int w1), (4, .int (0 : Int32))]) rfl ?_
  exact X5_findWith_28_l12_ok hC hF N a1 a2 w1 (0 : Int32) S hf
