def X3_insert_34_b51 (N : Nat) (v1 : Int32) (v2 : Int32) (S : aSt) : Option (aSt) := (aLet (X6_set_37 v2 v1 S) (fun w2 => some ((aI w2 34 0 ((w2.1 34 0) + (1 : Int32))))))
set_option maxHeartbeats 4000000 in
set_option maxRecDepth 100000 in
theorem X3_insert_34_b51_ok {C : aC} {N : Nat} (hC : aCx C M_X3_insert) {r : aSt} (hF : aFin C none LAY r 0 0) (v1 : Int32) (v2 : Int32) (S : aSt) (hf : X3_insert_34_b51 N v1 v2 S = (some r)) : aX C M_X3_insert 0 0 (51, [(0, .ref 34), (1, .int v1), (2, .int v2)], [], LAY, S) := by
  have hT := ok_X3_insert
  unfold X3_insert_34_b51 at hf
  refine aRun_ok hC hT 4 (cf' := (57, [(0, .ref 34), (1, .int v1), (2, .int v2)], [.int v1, .int v2, .ref 37], LAY, S)) (by rfl) ?_
  obtain ⟨w2, ew3, hf⟩ := aLetE hf
  refine aCallS (As := [.ref 37, .int v2, .int v1]) (rest := []) hC hT rfl k_X3_insert_67.1 _ k_X3_insert_67.2 (by rfl) (Nat.le_of_ble_eq_true rfl) (by decide) (J_X6_set_37 C.2.2.1 C.1 v2 v1 S ew3) ?_
  refine aRun_ok hC hT 6 (cf' := (70, [(0, .ref 34), (1, .int v1), (2, .int v2)], [], LAY, (aI w2 34 0 ((w2.1 34 0) + (1 : Int32))))) (by rfl) ?_
  have e9 := Option.some.inj hf; subst e9
  exact aRetV hC hT hF rfl rfl
def X3_insert_34_b5 (N : Nat) (rec5 : Int32 → Int32 → aSt → Option (aSt)) (v1 : Int32) (v2 : Int32) (S : aSt) : Option (aSt) := (if v2 ≤ (0 : Int32) then (X3_insert_34_b51 N v1 v2 S) else (aLet (X6_at_37 (v2 - (1 : Int32)) S) (fun w4 => (aLet (X3_isSooner_34 v1 w4 S) (fun w6 => (if w6 = (0 : Int32) then (X3_insert_34_b51 N v1 v2 S) else (aLet (X6_at_37 (v2 - (1 : Int32)) S) (fun w9 => (aLet (X6_set_37 v2 w9 S) (fun w11 => (rec5 v1 (v2 + ((-1) : Int32)) w11)))))))))))
set_option maxHeartbeats 4000000 in
set_option maxRecDepth 100000 in
theorem X3_insert_34_b5_ok {C : aC} {N : Nat} {rec5 : Int32 → Int32 → aSt → Option (aSt)} (hC : aCx C M_X3_insert) {r : aSt} (hF : aFin C none LAY r 0 0) (hrec5 : ∀ (v1 : Int32) (v2 : Int32) (S : aSt), rec5 v1 v2 S = (some r) → aX C M_X3_insert 0 0 (5, [(0, .ref 34), (1, .int v1), (2, .int v2)], [], LAY, S)) (v1 : Int32) (v2 : Int32) (S : aSt) (hf : X3_insert_34_b5 N rec5 v1 v2 S = (some r)) : aX C M_X3_insert 0 0 (5, [(0, .ref 34), (1, .int v1), (2, .int v2)], [], LAY, S) := by
  have hT := ok_X3_insert
  unfold X3_insert_34_b5 at hf
  refine aRun_ok hC hT 1 (cf' := (6, [(0, .ref 34), (1, .int v1), (2, .int v2)], [.int v2], LAY, S)) (by rfl) ?_
  refine aIf_le hC hT (tgt := 51) rfl (by decide) (fun hc1 => ?_) (fun hc1 => ?_)
  · have hf := aIfT hf hc1
    exact X3_insert_34_b51_ok hC hF v1 v2 S hf
  · have hf := aIfF hf hc1
    refine aRun_ok hC hT 7 (cf' := (18, [(0, .ref 34), (1, .int v1), (2, .int v2)], [.int (v2 - (1 : Int32)), .ref 37, .int v1, .ref 34], LAY, S)) (by rfl) ?_
    obtain ⟨w4, ew5, hf⟩ := aLetE hf
    refine aCallS (As := [.ref 37, .int (v2 - (1 : Int32))]) (rest := [.int v1, .ref 34]) hC hT rfl k_X3_insert_33.1 _ k_X3_insert_33.2 (by rfl) (Nat.le_of_ble_eq_true rfl) (by decide) (J_X6_at_37 C.2.2.1 C.1 (v2 - (1 : Int32)) S ew5) ?_
    obtain ⟨w6, ew7, hf⟩ := aLetE hf
    refine aCallV (b := 34) (As := [.int v1, .int w4]) (rest := []) hC hT rfl k_X3_insert_90.1 _ _ k_X3_insert_90.2 (by decide) (by rfl) (by rfl) (by rfl) (Nat.le_of_ble_eq_true rfl) (by decide) (J_X3_isSooner_34 C.2.2.1 C.1 v1 w4 S ew7) ?_
    refine aIf_eq hC hT (tgt := 51) rfl (by decide) (fun hc8 => ?_) (fun hc8 => ?_)
    · have hf := aIfT hf hc8
      exact X3_insert_34_b51_ok hC hF v1 v2 S hf
    · have hf := aIfF hf hc8
      refine aRun_ok hC hT 8 (cf' := (39, [(0, .ref 34), (1, .int v1), (2, .int v2)], [.int (v2 - (1 : Int32)), .ref 37, .int v2, .ref 37], LAY, S)) (by rfl) ?_
      obtain ⟨w9, ew10, hf⟩ := aLetE hf
      refine aCallS (As := [.ref 37, .int (v2 - (1 : Int32))]) (rest := [.int v2, .ref 37]) hC hT rfl k_X3_insert_33.1 _ k_X3_insert_33.2 (by rfl) (Nat.le_of_ble_eq_true rfl) (by decide) (J_X6_at_37 C.2.2.1 C.1 (v2 - (1 : Int32)) S ew10) ?_
      obtain ⟨w11, ew12, hf⟩ := aLetE hf
      refine aCallS (As := [.ref 37, .int v2, .int w9]) (rest := []) hC hT rfl k_X3_insert_67.1 _ k_X3_insert_67.2 (by rfl) (Nat.le_of_ble_eq_true rfl) (by decide) (J_X6_set_37 C.2.2.1 C.1 v2 w9 S ew12) ?_
      refine aRun_ok hC hT 2 (cf' := (5, [(2, .int (v2 + ((-1) : Int32))), (0, .ref 34), (1, .int v1)], [], LAY, w11)) (by rfl) ?_
      refine aLocs [1, 2, 0] (lv' := [(0, .ref 34), (1, .int v1), (2, .int (v2 + ((-1) : Int32)))]) rfl ?_
      exact hrec5 v1 (v2 + ((-1) : Int32)) w11 hf
def X3_insert_34_l5 (N : Nat) : Nat → Int32 → Int32 → aSt → Option (aSt)
  | 0 => fun _ _ _ => none
  | n + 1 => X3_insert_34_b5 N (X3_insert_34_l5 N n)
theorem X3_insert_34_l5_ok {C : aC} {N : Nat} (hC : aCx C M_X3_insert) {r : aSt} (hF : aFin C none LAY r 0 0) : ∀ (n : Nat) (v1 : Int32) (v2 : Int32) (S : aSt), X3_insert_34_l5 N n v1 v2 S = (some r) → aX C M_X3_insert 0 0 (5, [(0, .ref 34), (1, .int v1), (2, .int v2)], [], LAY, S)
  | 0, _, _, _,  h => nomatch (show (none : Option (aSt)) = some _ from h)
  | n + 1, v1, v2, S,  h => X3_insert_34_b5_ok hC hF (fun v1 v2 S h => X3_insert_34_l5_ok hC hF n v1 v2 S h) v1 v2 S h
def X3_insert_34 (N : Nat) (a1 : Int32) (S : aSt) : Option (aSt) := (X3_insert_34_l5 N N a1 (S.1 34 0) S)
set_option maxHeartbeats 4000000 in
set_option maxRecDepth 100000 in
theorem J_X3_insert_34 (l : Launch) (g : aWg) (N : Nat) (a1 : Int32) (S : aSt) {r : aSt} (hf : X3_insert_34 N a1 S = (some r)) : aJ l g yX3_insert M_X3_insert [.ref 34, .int a1] LAY S none LAY r 0 0 := by
  refine aJ_of (by decide +kernel) rfl (Nat.le_of_ble_eq_true rfl) (fun h => nomatch h) ?_
  intro C hg hl hC hz hF
  subst hg; subst hl
  have hT := ok_X3_insert
  unfold X3_insert_34 at hf
  show aX C M_X3_insert 0 0 (0, [(0, .ref 34), (1, .int a1)], [], LAY, S)
  refine aRun_ok hC hT 3 (cf' := (5, [(2, .int (S.1 34 0)), (0, .ref 34), (1, .int a1)], [], LAY, S)) (by rfl) ?_
  refine aLocs [1, 2, 0] (lv' := [(0, .ref 34), (1, .int a1), (2, .int (S.1 34 0))]) rfl ?_
  exact X3_insert_34_l5_ok hC hF N a1 (S.1 34 0) S hf
def X6_at_26 (a1 : Int32) (S : aSt) : Int32 := (if a1 < (0 : Int32) then (0 : Int32) else (if (157 : Int32) ≤ a1 then (0 : Int32) else ((S.2.2 26) a1.toNatClampNeg)))
set_option maxHeartbeats 4000000 in
set_option maxRecDepth 100000 in
theorem J_X6_at_26 (l : Launch) (g : aWg) (a1 : Int32) (S : aSt) {r : Int32} (hf : X6_at_26 a1 S = r) : aJ l g yX6_at M_X6_at [.ref 26, .int a1] LAY S (some (.int r)) LAY S 0 0 := by
  refine aJ_of (by decide +kernel) rfl (Nat.le_of_ble_eq_true rfl) (fun h => nomatch h) ?_
  intro C hg hl hC hz hF
  subst hg; subst hl
  have hT := ok_X6_at
  unfold X6_at_26 at hf
  show aX C M_X6_at 0 0 (0, [(0, .ref 26), (1, .int a1)], [], LAY, S)
  refine aRun_ok hC hT 1 (cf' := (1, [(0, .ref 26), (1, .int a1)], [.int a1], LAY, S)) (by rfl) ?_
  refine aIf_lt hC hT (tgt := 16) rfl (by decide) (fun hc1 => ?_) (fun hc1 => ?_)
  · have hf := aIfT hf hc1
    refine aRun_ok hC hT 1 (cf' := (17, [(0, .ref 26), (1, .int a1)], [.int (0 : Int32)], LAY, S)) (by rfl) ?_
    subst hf
    exact aRetI hC hT hF rfl rfl
  · have hf := aIfF hf hc1
    refine aRun_ok hC hT 3 (cf' := (7, [(0, .ref 26), (1, .int a1)], [.int (157 : Int32), .int a1], LAY, S)) (by rfl) ?_
    refine aCmp_ge hC hT (tgt := 16) rfl (by decide) (fun hc2 => ?_) (fun hc2 => ?_)
    · have hf := aIfT hf hc2
      refine aRun_ok hC hT 1 (cf' := (17, [(0, .ref 26), (1, .int a1)], [.int (0 : Int32)], LAY, S)) (by rfl) ?_
      subst hf
      exact aRetI hC hT hF rfl rfl
    · have hf := aIfF hf hc2
      refine aRun_ok hC hT 2 (cf' := (12, [(0, .ref 26), (1, .int a1)], [.int a1, .ref 26], LAY, S)) (by rfl) ?_
      refine aIald hC hT rfl (by decide) (by rfl) (aIx_of hc1 hc2 (by decide)) ?_
      refine aRun_ok hC hT 1 (cf' := (17, [(0, .ref 26), (1, .int a1)], [.int ((S.2.2 26) a1.toNatClampNeg)], LAY, S)) (by rfl) ?_
      subst hf
      exact aRetI hC hT hF rfl rfl
def X7_slip_25 (a1 : Int32) (S : aSt) : Int32 := (aLet (X6_at_26 a1 S) (fun w1 => w1))
set_option maxHeartbeats 4000000 in
set_option maxRecDepth 100000 in
theorem J_X7_slip_25 (l : Launch) (g : aWg) (a1 : Int32) (S : aSt) {r : Int32} (hf : X7_slip_25 a1 S = r) : aJ l g yX7_slip M_X7_slip [.ref 25, .int a1] LAY S (some (.int r)) LAY S 0 0 := by
  refine aJ_of (by decide +kernel) rfl (Nat.le_of_ble_eq_true rfl) (fun h => nomatch h) ?_
  intro C hg hl hC hz hF
  subst hg; subst hl
  have hT := ok_X7_slip
  unfold X7_slip_25 at hf
  show aX C M_X7_slip 0 0 (0, [(0, .ref 25), (1, .int a1)], [], LAY, S)
  refine aRun_ok hC hT 3 (cf' := (5, [(0, .ref 25), (1, .int a1)], [.int a1, .ref 26], LAY, S)) (by rfl) ?_
  obtain ⟨w1, ew2, hf⟩ := aLetE hf
  refine aCallS (As := [.ref 26, .int a1]) (rest := []) hC hT rfl k_X7_slip_30.1 _ k_X7_slip_30.2 (by rfl) (Nat.le_of_ble_eq_true rfl) (by decide) (J_X6_at_26 C.2.2.1 C.1 a1 S ew2) ?_
  subst hf
  exact aRetI hC hT hF rfl rfl
def X6_set_35 (a1 : Int32) (a2 : Int32) (S : aSt) : aSt := (if a1 < (0 : Int32) then S else (if (30 : Int32) ≤ a1 then S else (aA S 35 (upd (S.2.2 35) a1.toNatClampNeg a2))))
set_option maxHeartbeats 4000000 in
set_option maxRecDepth 100000 in
theorem J_X6_set_35 (l : Launch) (g : aWg) (a1 : Int32) (a2 : Int32) (S : aSt) {r : aSt} (hf : X6_set_35 a1 a2 S = r) : aJ l g yX6_set M_X6_set [.ref 35, .int a1, .int a2] LAY S none LAY r 0 0 := by
  refine aJ_of (by decide +kernel) rfl (Nat.le_of_ble_eq_true rfl) (fun h => nomatch h) ?_
  intro C hg hl hC hz hF
  subst hg; subst hl
  have hT := ok_X6_set
  unfold X6_set_35 at hf
  show aX C M_X6_set 0 0 (0, [(0, .ref 35), (1, .int a1), (2, .int a2)], [], LAY, S)
  refine aRun_ok hC hT 1 (cf' := (1, [(0, .ref 35), (1, .int a1), (2, .int a2)], [.int a1], LAY, S)) (by rfl) ?_
  refine aIf_lt hC hT (tgt := 14) rfl (by decide) (fun hc1 => ?_) (fun hc1 => ?_)
  · have hf := aIfT hf hc1
    subst hf
    exact aRetV hC hT hF rfl rfl
  · have hf := aIfF hf hc1
    refine aRun_ok hC hT 3 (cf' := (7, [(0, .ref 35), (1, .int a1), (2, .int a2)], [.int (30 : Int32), .int a1], LAY, S)) (by rfl) ?_
    refine aCmp_ge hC hT (tgt := 14) rfl (by decide) (fun hc2 => ?_) (fun hc2 => ?_)
    · have hf := aIfT hf hc2
      subst hf
      exact aRetV hC hT hF rfl rfl
    · have hf := aIfF hf hc2
      refine aRun_ok hC hT 3 (cf' := (13, [(0, .ref 35), (1, .int a1), (2, .int a2)], [.int a2, .int a1, .ref 35], LAY, S)) (by rfl) ?_
      refine aIast hC hT rfl (by decide) (by rfl) (aIx_of hc1 hc2 (by decide)) ?_
      subst hf
      exact aRetV hC hT hF rfl rfl
def X3_build_34_b142 (N : Nat) (S : aSt) : Option (aSt) := (Option.bind (X3_sumUp_34 N S) (fun w5 => some (w5)))
set_option maxHeartbeats 4000000 in
set_option maxRecDepth 100000 in
theorem X3_build_34_b142_ok {C : aC} {N : Nat} (hC : aCx C M_X3_build) {r : aSt} (hF : aFin C none LAY r 0 0) (S : aSt) (hf : X3_build_34_b142 N S = (some r)) : aX C M_X3_build 0 0 (142, [(0, .ref 34)], [], LAY, S) := by
  have hT := ok_X3_build
  unfold X3_build_34_b142 at hf
  refine aRun_ok hC hT 1 (cf' := (143, [(0, .ref 34)], [.ref 34], LAY, S)) (by rfl) ?_
  obtain ⟨w5, ew6, hf⟩ := aBnE hf
  refine aCallV (b := 34) (As := []) (rest := []) hC hT rfl k_X3_build_87.1 _ _ k_X3_build_87.2 (by decide) (by rfl) (by rfl) (by rfl) (Nat.le_of_ble_eq_true rfl) (by decide) (J_X3_sumUp_34 C.2.2.1 C.1 N  S ew6) ?_
  have e9 := Option.some.inj hf; subst e9
  exact aRetV hC hT hF rfl rfl
def X3_build_34_b136 (N : Nat) (rec89 : Int32 → aSt → Option (aSt)) (v1 : Int32) (S : aSt) : Option (aSt) := (rec89 (v1 + (1 : Int32)) S)
set_option maxHeartbeats 4000000 in
set_option maxRecDepth 100000 in
theorem X3_build_34_b136_ok {C : aC} {N : Nat} {rec89 : Int32 → aSt → Option (aSt)} (hC : aCx C M_X3_build) {r : aSt} (hF : aFin C none LAY r 0 0) (hrec89 : ∀ (v1 : Int32) (S : aSt), rec89 v1 S = (some r) → aX C M_X3_build 0 0 (89, [(0, .ref 34), (1, .int v1)], [], LAY, S)) (v1 : Int32) (S : aSt) (hf : X3_build_34_b136 N rec89 v1 S = (some r)) : aX C M_X3_build 0 0 (136, [(0, .ref 34), (1, .int v1)], [], LAY, S) := by
  have hT := ok_X3_build
  unfold X3_build_34_b136 at hf
  refine aRun_ok hC hT 2 (cf' := (89, [(1, .int (v1 + (1 : Int32))), (0, .ref 34)], [], LAY, S)) (by rfl) ?_
  refine aLocs [1, 0] (lv' := [(0, .ref 34), (1, .int (v1 + (1 : Int32)))]) rfl ?_
  exact hrec89 (v1 + (1 : Int32)) S hf
def X3_build_34_b89 (N : Nat) (rec89 : Int32 → aSt → Option (aSt)) (v1 : Int32) (S : aSt) : Option (aSt) := (if (S.1 8 0) ≤ v1 then (X3_build_34_b142 N S) else (aLet (X2_told_8 v1 (1 : Int32) S) (fun w7 => (Option.bind (X0_many N w7) (fun w9 => (aLet (X6_set_36 v1 w9 S) (fun w11 => (aLet (X6_at_35 v1 w11) (fun w13 => (if w13 ≤ (0 : Int32) then (X3_build_34_b136 N rec89 v1 w11) else (Option.bind (X3_insert_34 N v1 w11) (fun w16 => (X3_build_34_b136 N rec89 v1 w16)))))))))))))
set_option maxHeartbeats 4000000 in
set_option maxRecDepth 100000 in
theorem X3_build_34_b89_ok {C : aC} {N : Nat} {rec89 : Int32 → aSt → Option (aSt)} (hC : aCx C M_X3_build) {r : aSt} (hF : aFin C none LAY r 0 0) (hrec89 : ∀ (v1 : Int32) (S : aSt), rec89 v1 S = (some r) → aX C M_X3_build 0 0 (89, [(0, .ref 34), (1, .int v1)], [], LAY, S)) (v1 : Int32) (S : aSt) (hf : X3_build_34_b89 N rec89 v1 S = (some r)) : aX C M_X3_build 0 0 (89, [(0, .ref 34), (1, .int v1)], [], LAY, S) := by
  have hT := ok_X3_build
  unfold X3_build_34_b89 at hf
  refine aRun_ok hC hT 4 (cf' := (97, [(0, .ref 34), (1, .int v1)], [.int (S.1 8 0), .int v1], LAY, S)) (by rfl) ?_
  refine aCmp_ge hC hT (tgt := 142) rfl (by decide) (fun hc4 => ?_) (fun hc4 => ?_)
  · have hf := aIfT hf hc4
    refine aLocs [0] (lv' := [(0, .ref 34)]) rfl ?_
    exact X3_build_34_b142_ok hC hF S hf
  · have hf := aIfF hf hc4
    refine aRun_ok hC hT 7 (cf' := (111, [(0, .ref 34), (1, .int v1)], [.int (1 : Int32), .int v1, .ref 8, .int v1, .ref 36], LAY, S)) (by rfl) ?_
    obtain ⟨w7, ew8, hf⟩ := aLetE hf
    refine aCallV (b := 8) (As := [.int v1, .int (1 : Int32)]) (rest := [.int v1, .ref 36]) hC hT rfl k_X3_build_74.1 _ _ k_X3_build_74.2 (by decide) (by rfl) (by rfl) (by rfl) (Nat.le_of_ble_eq_true rfl) (by decide) (J_X2_told_8 C.2.2.1 C.1 v1 (1 : Int32) S ew8) ?_
    obtain ⟨w9, ew10, hf⟩ := aBnE hf
    refine aCallS (As := [.int w7]) (rest := [.int v1, .ref 36]) hC hT rfl k_X3_build_78.1 _ k_X3_build_78.2 (by rfl) (Nat.le_of_ble_eq_true rfl) (by decide) (J_X0_many C.2.2.1 C.1 N w7 S ew10) ?_
    obtain ⟨w11, ew12, hf⟩ := aLetE hf
    refine aCallS (As := [.ref 36, .int v1, .int w9]) (rest := []) hC hT rfl k_X3_build_67.1 _ k_X3_build_67.2 (by rfl) (Nat.le_of_ble_eq_true rfl) (by decide) (J_X6_set_36 C.2.2.1 C.1 v1 w9 S ew12) ?_
    refine aRun_ok hC hT 3 (cf' := (125, [(0, .ref 34), (1, .int v1)], [.int v1, .ref 35], LAY, w11)) (by rfl) ?_
    obtain ⟨w13, ew14, hf⟩ := aLetE hf
    refine aCallS (As := [.ref 35, .int v1]) (rest := []) hC hT rfl k_X3_build_33.1 _ k_X3_build_33.2 (by rfl) (Nat.le_of_ble_eq_true rfl) (by decide) (J_X6_at_35 C.2.2.1 C.1 v1 w11 ew14) ?_
    refine aIf_le hC hT (tgt := 136) rfl (by decide) (fun hc15 => ?_) (fun hc15 => ?_)
    · have hf := aIfT hf hc15
      exact X3_build_34_b136_ok hC hF hrec89 v1 w11 hf
    · have hf := aIfF hf hc15
      refine aRun_ok hC hT 2 (cf' := (133, [(0, .ref 34), (1, .int v1)], [.int v1, .ref 34], LAY, w11)) (by rfl) ?_
      obtain ⟨w16, ew17, hf⟩ := aBnE hf
      refine aCallV (b := 34) (As := [.int v1]) (rest := []) hC hT rfl k_X3_build_83.1 _ _ k_X3_build_83.2 (by decide) (by rfl) (by rfl) (by rfl) (Nat.le_of_ble_eq_true rfl) (by decide) (J_X3_insert_34 C.2.2.1 C.1 N v1 w11 ew17) ?_
      exact X3_build_34_b136_ok hC hF hrec89 v1 w16 hf
def X3_build_34_l89 (N : Nat) : Nat → Int32 → aSt → Option (aSt)
  | 0 => fun _ _ => none
  | n + 1 => X3_build_34_b89 N (X3_build_34_l89 N n)
theorem X3_build_34_l89_ok {C : aC} {N : Nat} (hC : aCx C M_X3_build) {r : aSt} (hF : aFin C none LAY r 0 0) : ∀ (n : Nat) (v1 : Int32) (S : aSt), X3_build_34_l89 N n v1 S = (some r) → aX C M_X3_build 0 0 (89, [(0, .ref 34), (1, .int v1)], [], LAY, S)
  | 0, _, _,  h => nomatch (show (none : Option (aSt)) = some _ from h)
  | n + 1, v1, S,  h => X3_build_34_b89_ok hC hF (fun v1 S h => X3_build_34_l89_ok hC hF n v1 S h) v1 S h
def X3_build_34_b87 (N : Nat) (S : aSt) : Option (aSt) := (X3_build_34_l89 N N (0 : Int32) S)
set_option maxHeartbeats 4000000 in
set_option maxRecDepth 100000 in
theorem X3_build_34_b87_ok {C : aC} {N : Nat} (hC : aCx C M_X3_build) {r : aSt} (hF : aFin C none LAY r 0 0) (S : aSt) (hf : X3_build_34_b87 N S = (some r)) : aX C M_X3_build 0 0 (87, [(0, .ref 34)], [], LAY, S) := by
  have hT := ok_X3_build
  unfold X3_build_34_b87 at hf
  refine aRun_ok hC hT 2 (cf' := (89, [(1, .int (0 : Int32)), (0, .ref 34)], [], LAY, S)) (by rfl) ?_
  refine aLocs [1, 0] (lv' := [(0, .ref 34), (1, .int (0 : Int32))]) rfl ?_
  exact X3_build_34_l89_ok hC hF N (0 : Int32) S hf
def X3_build_34_b81 (N : Nat) (rec15 : Int32 → aSt → Option (aSt)) (v1 : Int32) (S : aSt) : Option (aSt) := (rec15 (v1 + (1 : Int32)) S)
set_option maxHeartbeats 4000000 in
set_option maxRecDepth 100000 in
theorem X3_build_34_b81_ok {C : aC} {N : Nat} {rec15 : Int32 → aSt → Option (aSt)} (hC : aCx C M_X3_build) {r : aSt} (hF : aFin C none LAY r 0 0) (hrec15 : ∀ (v1 : Int32) (S : aSt), rec15 v1 S = (some r) → aX C M_X3_build 0 0 (15, [(0, .ref 34), (1, .int v1)], [], LAY, S)) (v1 : Int32) (S : aSt) (hf : X3_build_34_b81 N rec15 v1 S = (some r)) : aX C M_X3_build 0 0 (81, [(0, .ref 34), (1, .int v1)], [], LAY, S) := by
  have hT := ok_X3_build
  unfold X3_build_34_b81 at hf
  refine aRun_ok hC hT 2 (cf' := (15, [(1, .int (v1 + (1 : Int32))), (0, .ref 34)], [], LAY, S)) (by rfl) ?_
  refine aLocs [1, 0] (lv' := [(0, .ref 34), (1, .int (v1 + (1 : Int32)))]) rfl ?_
  exact hrec15 (v1 + (1 : Int32)) S hf
def X3_build_34_b15 (N : Nat) (rec15 : Int32 → aSt → Option (aSt)) (v1 : Int32) (S : aSt) : Option (aSt) := (if (S.1 25 0) ≤ v1 then (X3_build_34_b87 N S) else (aLet (X7_slip_25 v1 S) (fun w18 => (aLet (X8_kind_14 w18 S) (fun w20 => (if (5 : Int32) ≤ w20 then (X3_build_34_b81 N rec15 v1 S) else (aLet (X8_place_14 w18 S) (fun w23 => (aLet (X6_at_35 w23 S) (fun w25 => (aLet (X8_weight_14 w18 S) (fun w27 => (aLet (X6_set_35 w23 (w25 + w27) S) (fun w29 => (X3_build_34_b81 N rec15 v1 w29)))))))))))))))
set_option maxHeartbeats 4000000 in
set_option maxRecDepth 100000 in
theorem X3_build_34_b15_ok {C : aC} {N : Nat} {rec15 : Int32 → aSt → Option (aSt)} (hC : aCx C M_X3_build) {r : aSt} (hF : aFin C none LAY r 0 0) (hrec15 : ∀ (v1 : Int32) (S : aSt), rec15 v1 S = (some r) → aX C M_X3_build 0 0 (15, [(0, .ref 34), (1, .int v1)], [], LAY, S)) (v1 : Int32) (S : aSt) (hf : X3_build_34_b15 N rec15 v1 S = (some r)) : aX C M_X3_build 0 0 (15, [(0, .ref 34), (1, .int v1)], [], LAY, S) := by
  have hT := ok_X3_build
  unfold X3_build_34_b15 at hf
  refine aRun_ok hC hT 4 (cf' := (23, [(0, .ref 34), (1, .int v1)], [.int (S.1 25 0), .int v1], LAY, S)) (by rfl) ?_
  refine aCmp_ge hC hT (tgt := 87) rfl (by decide) (fun hc3 => ?_) (fun hc3 => ?_)
  · have hf := aIfT hf hc3
    refine aLocs [0] (lv' := [(0, .ref 34)]) rfl ?_
    exact X3_build_34_b87_ok hC hF S hf
  · have hf := aIfF hf hc3
    refine aRun_ok hC hT 3 (cf' := (31, [(0, .ref 34), (1, .int v1)], [.int v1, .ref 25], LAY, S)) (by rfl) ?_
    obtain ⟨w18, ew19, hf⟩ := aLetE hf
    refine aCallV (b := 25) (As := [.int v1]) (rest := []) hC hT rfl k_X3_build_52.1 _ _ k_X3_build_52.2 (by decide) (by rfl) (by rfl) (by rfl) (Nat.le_of_ble_eq_true rfl) (by decide) (J_X7_slip_25 C.2.2.1 C.1 v1 S ew19) ?_
    refine aRun_ok hC hT 4 (cf' := (40, [(2, .int w18), (0, .ref 34), (1, .int v1)], [.int w18, .ref 14], LAY, S)) (by rfl) ?_
    obtain ⟨w20, ew21, hf⟩ := aLetE hf
    refine aCallV (b := 14) (As := [.int w18]) (rest := []) hC hT rfl k_X3_build_56.1 _ _ k_X3_build_56.2 (by decide) (by rfl) (by rfl) (by rfl) (Nat.le_of_ble_eq_true rfl) (by decide) (J_X8_kind_14 C.2.2.1 C.1 w18 S ew21) ?_
    refine aRun_ok hC hT 1 (cf' := (44, [(2, .int w18), (0, .ref 34), (1, .int v1)], [.int (5 : Int32), .int w20], LAY, S)) (by rfl) ?_
    refine aCmp_ge hC hT (tgt := 81) rfl (by decide) (fun hc22 => ?_) (fun hc22 => ?_)
    · have hf := aIfT hf hc22
      refine aLocs [1, 2] (lv' := [(0, .ref 34), (1, .int v1)]) rfl ?_
      exact X3_build_34_b81_ok hC hF hrec15 v1 S hf
    · have hf := aIfF hf hc22
      refine aRun_ok hC hT 3 (cf' := (52, [(2, .int w18), (0, .ref 34), (1, .int v1)], [.int w18, .ref 14], LAY, S)) (by rfl) ?_
      obtain ⟨w23, ew24, hf⟩ := aLetE hf
      refine aCallV (b := 14) (As := [.int w18]) (rest := []) hC hT rfl k_X3_build_61.1 _ _ k_X3_build_61.2 (by decide) (by rfl) (by rfl) (by rfl) (Nat.le_of_ble_eq_true rfl) (by decide) (J_X8_place_14 C.2.2.1 C.1 w18 S ew24) ?_
      refine aRun_ok hC hT 7 (cf' := (66, [(3, .int w23), (2, .int w18), (0, .ref 34), (1, .int v1)], [.int w23, .ref 35, .int w23, .ref 35], LAY, S)) (by rfl) ?_
      obtain ⟨w25, ew26, hf⟩ := aLetE hf
      refine aCallS (As := [.ref 35, .int w23]) (rest := [.int w23, .ref 35]) hC hT rfl k_X3_build_33.1 _ k_X3_build_33.2 (by rfl) (Nat.le_of_ble_eq_true rfl) (by decide) (J_X6_at_35 C.2.2.1 C.1 w23 S ew26) ?_
      refine aRun_ok hC hT 3 (cf' := (74, [(3, .int w23), (2, .int w18), (0, .ref 34), (1, .int v1)], [.int w18, .ref 14, .int w25, .int w23, .ref 35], LAY, S)) (by rfl) ?_
      obtain ⟨w27, ew28, hf⟩ := aLetE hf
      refine aCallV (b := 14) (As := [.int w18]) (rest := [.int w25, .int w23, .ref 35]) hC hT rfl k_X3_build_64.1 _ _ k_X3_build_64.2 (by decide) (by rfl) (by rfl) (by rfl) (Nat.le_of_ble_eq_true rfl) (by decide) (J_X8_weight_14 C.2.2.1 C.1 w18 S ew28) ?_
      refine aRun_ok hC hT 1 (cf' := (78, [(3, .int w23), (2, .int w18), (0, .ref 34), (1, .int v1)], [.int (w25 + w27), .int w23, .ref 35], LAY, S)) (by rfl) ?_
      obtain ⟨w29, ew30, hf⟩ := aLetE hf
      refine aCallS (As := [.ref 35, .int w23, .int (w25 + w27)]) (rest := []) hC hT rfl k_X3_build_67.1 _ k_X3_build_67.2 (by rfl) (Nat.le_of_ble_eq_true rfl) (by decide) (J_X6_set_35 C.2.2.1 C.1 w23 (w25 + w27) S ew30) ?_
      refine aLocs [2, 3] (lv' := [(0, .ref 34), (1, .int v1)]) rfl ?_
      exact X3_build_34_b81_ok hC hF hrec15 v1 w29 hf
def X3_build_34_l15 (N : Nat) : Nat → Int32 → aSt → Option (aSt)
  | 0 => fun _ _ => none
  | n + 1 => X3_build_34_b15 N (X3_build_34_l15 N n)
theorem X3_build_34_l15_ok {C : aC} {N : Nat} (hC : aCx C M_X3_build) {r : aSt} (hF : aFin C none LAY r 0 0) : ∀ (n : Nat) (v1 : Int32) (S : aSt), X3_build_34_l15 N n v1 S = (some r) → aX C M_X3_build 0 0 (15, [(0, .ref 34), (1, .int v1)], [], LAY, S)
  | 0, _, _,  h => nomatch (show (none : Option (aSt)) = some _ from h)
  | n + 1, v1, S,  h => X3_build_34_b15_ok hC hF (fun v1 S h => X3_build_34_l15_ok hC hF n v1 S h) v1 S h
def X3_build_34 (N : Nat) (S : aSt) : Option (aSt) := (Option.bind (J7_fill_53178_35 N (0 : Int32) (aI S 34 0 (0 : Int32))) (fun w1 => (X3_build_34_l15 N N (0 : Int32) w1)))
set_option maxHeartbeats 4000000 in
set_option maxRecDepth 100000 in
theorem J_X3_build_34 (l : Launch) (g : aWg) (N : Nat) (S : aSt) {r : aSt} (hf : X3_build_34 N S = (some r)) : aJ l g yX3_build M_X3_build [.ref 34] LAY S none LAY r 0 0 := by
  refine aJ_of (by decide +kernel) rfl (Nat.le_of_ble_eq_true rfl) (fun h => nomatch h) ?_
  intro C hg hl hC hz hF
  subst hg; subst hl
  have hT := ok_X3_build
  unfold X3_build_34 at hf
  show aX C M_X3_build 0 0 (0, [(0, .ref 34)], [], LAY, S)
  refine aRun_ok hC hT 6 (cf' := (10, [(0, .ref 34)], [.int (0 : Int32), .ref 35], LAY, (aI S 34 0 (0 : Int32)))) (by rfl) ?_
  obtain ⟨w1, ew2, hf⟩ := aBnE hf
  refine aCallS (As := [.ref 35, .int (0 : Int32)]) (rest := []) hC hT rfl k_X3_build_43.1 _ k_X3_build_43.2 (by rfl) (Nat.le_of_ble_eq_true rfl) (by decide) (J_J7_fill_53178_35 C.2.2.1 C.1 N (0 : Int32) (aI S 34 0 (0 : Int32)) ew2) ?_
  refine aRun_ok hC hT 2 (cf' := (15, [(1, .int (0 : Int32)), (0, .ref 34)], [], LAY, w1)) (by rfl) ?_
  refine aLocs [1, 0] (lv' := [(0, .ref 34), (1, .int (0 : Int32))]) rfl ?_
  exact X3_build_34_l15_ok hC hF N (0 : Int32) w1 hf
def X10_workOut_0 (N : Nat) (S : aSt) : Option (aSt) := (if (S.1 0 10) = (S.1 8 4) then some (S) else (Option.bind (X8_build_14 N S) (fun w2 => (Option.bind (X7_build_22 N w2) (fun w4 => (Option.bind (X7_build_25 N w4) (fun w6 => (Option.bind (X2_outOf_8 N ((-1) : Int32) w6) (fun w8 => (Option.bind (X5_find_28 N (-w8) w6) (fun w10 => (Option.bind (X5_find_29 N (0 : Int32) w10) (fun w12 => (Option.bind (X3_build_30 N w12) (fun w14 => (Option.bind (X3_build_34 N w14) (fun w16 => some ((aI w16 0 10 (w16.1 8 4))))))))))))))))))))
set_option maxHeartbeats 4000000 in
set_option maxRecDepth 100000 in
theorem J_X10_workOut_0 (l : Launch) (g : aWg) (N : Nat) (S : aSt) {r : aSt} (hf : X10_workOut_0 N S = (some r)) : aJ l g yX10_workOut M_X10_workOut [.ref 0] LAY S none LAY r 0 0 := by
  refine aJ_of (by decide +kernel) rfl (Nat.le_of_ble_eq_true rfl) (fun h => nomatch h) ?_
  intro C hg hl hC hz hF
  subst hg; subst hl
  have hT := ok_X10_workOut
  unfold X10_workOut_0 at hf
  show aX C M_X10_workOut 0 0 (0, [(0, .ref 0)], [], LAY, S)
  refine aRun_ok hC hT 5 (cf' := (11, [(0, .ref 0)], [.int (S.1 8 4), .int (S.1 0 10)], LAY, S)) (by rfl) ?_
  refine aCmp_ne hC hT (tgt := 15) rfl (by decide) (fun hc1 => ?_) (fun hc1 => ?_)
  · have hf := aIfF hf hc1
    refine aRun_ok hC hT 2 (cf' := (19, [(0, .ref 0)], [.ref 14], LAY, S)) (by rfl) ?_
    obtain ⟨w2, ew3, hf⟩ := aBnE hf
    refine aCallV (b := 14) (As := []) (rest := []) hC hT rfl k_X10_workOut_256.1 _ _ k_X10_workOut_256.2 (by decide) (by rfl) (by rfl) (by rfl) (Nat.le_of_ble_eq_true rfl) (by decide) (J_X8_build_14 C.2.2.1 C.1 N  S ew3) ?_
    refine aRun_ok hC hT 2 (cf' := (26, [(0, .ref 0)], [.ref 22], LAY, w2)) (by rfl) ?_
    obtain ⟨w4, ew5, hf⟩ := aBnE hf
    refine aCallV (b := 22) (As := []) (rest := []) hC hT rfl k_X10_workOut_259.1 _ _ k_X10_workOut_259.2 (by decide) (by rfl) (by rfl) (by rfl) (Nat.le_of_ble_eq_true rfl) (by decide) (J_X7_build_22 C.2.2.1 C.1 N  w2 ew5) ?_
    refine aRun_ok hC hT 2 (cf' := (33, [(0, .ref 0)], [.ref 25], LAY, w4)) (by rfl) ?_
    obtain ⟨w6, ew7, hf⟩ := aBnE hf
    refine aCallV (b := 25) (As := []) (rest := []) hC hT rfl k_X10_workOut_259.1 _ _ k_X10_workOut_259.2 (by decide) (by rfl) (by rfl) (by rfl) (Nat.le_of_ble_eq_true rfl) (by decide) (J_X7_build_25 C.2.2.1 C.1 N  w4 ew7) ?_
    refine aRun_ok hC hT 5 (cf' := (45, [(0, .ref 0)], [.int ((-1) : Int32), .ref 8, .ref 28], LAY, w6)) (by rfl) ?_
    obtain ⟨w8, ew9, hf⟩ := aBnE hf
    refine aCallV (b := 8) (As := [.int ((-1) : Int32)]) (rest := [.ref 28]) hC hT rfl k_X10_workOut_110.1 _ _ k_X10_workOut_110.2 (by decide) (by rfl) (by rfl) (by rfl) (Nat.le_of_ble_eq_true rfl) (by decide) (J_X2_outOf_8 C.2.2.1 C.1 N ((-1) : Int32) w6 ew9) ?_
    refine aRun_ok hC hT 1 (cf' := (49, [(0, .ref 0)], [.int (-w8), .ref 28], LAY, w6)) (by rfl) ?_
    obtain ⟨w10, ew11, hf⟩ := aBnE hf
    refine aCallV (b := 28) (As := [.int (-w8)]) (rest := []) hC hT rfl k_X10_workOut_260.1 _ _ k_X10_workOut_260.2 (by decide) (by rfl) (by rfl) (by rfl) (Nat.le_of_ble_eq_true rfl) (by decide) (J_X5_find_28 C.2.2.1 C.1 N (-w8) w6 ew11) ?_
    refine aRun_ok hC hT 3 (cf' := (57, [(0, .ref 0)], [.int (0 : Int32), .ref 29], LAY, w10)) (by rfl) ?_
    obtain ⟨w12, ew13, hf⟩ := aBnE hf
    refine aCallV (b := 29) (As := [.int (0 : Int32)]) (rest := []) hC hT rfl k_X10_workOut_260.1 _ _ k_X10_workOut_260.2 (by decide) (by rfl) (by rfl) (by rfl) (Nat.le_of_ble_eq_true rfl) (by decide) (J_X5_find_29 C.2.2.1 C.1 N (0 : Int32) w10 ew13) ?_
    refine aRun_ok hC hT 2 (cf' := (64, [(0, .ref 0)], [.ref 30], LAY, w12)) (by rfl) ?_
    obtain ⟨w14, ew15, hf⟩ := aBnE hf
    refine aCallV (b := 30) (As := []) (rest := []) hC hT rfl k_X10_workOut_263.1 _ _ k_X10_workOut_263.2 (by decide) (by rfl) (by rfl) (by rfl) (Nat.le_of_ble_eq_true rfl) (by decide) (J_X3_build_30 C.2.2.1 C.1 N  w12 ew15) ?_
    refine aRun_ok hC hT 2 (cf' := (71, [(0, .ref 0)], [.ref 34], LAY, w14)) (by rfl) ?_
    obtain ⟨w16, ew17, hf⟩ := aBnE hf
    refine aCallV (b := 34) (As := []) (rest := []) hC hT rfl k_X10_workOut_263.1 _ _ k_X10_workOut_263.2 (by decide) (by rfl) (by rfl) (by rfl) (Nat.le_of_ble_eq_true rfl) (by decide) (J_X3_build_34 C.2.2.1 C.1 N  w14 ew17) ?_
    refine aRun_ok hC hT 5 (cf' := (85, [(0, .ref 0)], [], LAY, (aI w16 0 10 (w16.1 8 4)))) (by rfl) ?_
    have e9 := Option.some.inj hf; subst e9
    exact aRetV hC hT hF rfl rfl
  · have hf := aIfT hf hc1
    have e9 := Option.some.inj hf; subst e9
    exact aRetV hC hT hF rfl rfl
def X10_isPart (a0 : Int32) : Int32 := (if a0 = (0 : Int32) then (1 : Int32) else (if a0 = (1 : Int32) then (1 : Int32) else (0 : Int32)))
set_option maxHeartbeats 4000000 in
set_option maxRecDepth 100000 in
theorem J_X10_isPart (l : Launch) (g : aWg) (a0 : Int32) (S : aSt) {r : Int32} (hf : X10_isPart a0 = r) : aJ l g yX10_isPart M_X10_isPart [.int a0] LAY S (some (.int r)) LAY S 0 0 := by
  refine aJ_of (by decide +kernel) rfl (Nat.le_of_ble_eq_true rfl) (fun h => nomatch h) ?_
  intro C hg hl hC hz hF
  subst hg; subst hl
  have hT := ok_X10_isPart
  unfold X10_isPart at hf
  show aX C M_X10_isPart 0 0 (0, [(0, .int a0)], [], LAY, S)
  refine aRun_ok hC hT 1 (cf' := (1, [(0, .int a0)], [.int a0], LAY, S)) (by rfl) ?_
  refine aIf_eq hC hT (tgt := 9) rfl (by decide) (fun hc1 => ?_) (fun hc1 => ?_)
  · have hf := aIfT hf hc1
    refine aRun_ok hC hT 2 (cf' := (14, [(0, .int a0)], [.int (1 : Int32)], LAY, S)) (by rfl) ?_
    subst hf
    exact aRetB hC hT hF rfl (Or.inr rfl) rfl
  · have hf := aIfF hf hc1
    refine aRun_ok hC hT 2 (cf' := (6, [(0, .int a0)], [.int (1 : Int32), .int a0], LAY, S)) (by rfl) ?_
    refine aCmp_ne hC hT (tgt := 13) rfl (by decide) (fun hc2 => ?_) (fun hc2 => ?_)
    · have hf := aIfF hf hc2
      refine aRun_ok hC hT 1 (cf' := (14, [(0, .int a0)], [.int (0 : Int32)], LAY, S)) (by rfl) ?_
      subst hf
      exact aRetB hC hT hF rfl (Or.inl rfl) rfl
    · have hf := aIfT hf hc2
      refine aRun_ok hC hT 2 (cf' := (14, [(0, .int a0)], [.int (1 : Int32)], LAY, S)) (by rfl) ?_
      subst hf
      exact aRetB hC hT hF rfl (Or.inr rfl) rfl
def X1_greatestDivisor_b3 (N : Nat) (rec3 : Int64 → Int64 → Int32 → Option (Int64)) (v0 : Int64) (v2 : Int64) (v4 : Int32) : Option (Int64) := (if (100 : Int32) ≤ v4 then some (v0) else (if (lg_cmp v2 (0 : Int64)) = (0 : Int32) then some (v0) else (if ¬ v2 = (0 : Int64) then (rec3 v2 (v0 - v0 / v2 * v2) (v4 + (1 : Int32))) else none)))
set_option maxHeartbeats 4000000 in
set_option maxRecDepth 100000 in
theorem X1_greatestDivisor_b3_ok {C : aC} {N : Nat} {S : aSt} {rec3 : Int64 → Int64 → Int32 → Option (Int64)} (hC : aCx C M_X1_greatestDivisor) {r : Int64} (hF : aFin C (some (.long r)) LAY S 0 0) (hrec3 : ∀ (v0 : Int64) (v2 : Int64) (v4 : Int32), rec3 v0 v2 v4 = (some r) → aX C M_X1_greatestDivisor 0 0 (3, [(0, .long v0), (2, .long v2), (4, .int v4)], [], LAY, S)) (v0 : Int64) (v2 : Int64) (v4 : Int32) (hf : X1_greatestDivisor_b3 N rec3 v0 v2 v4 = (some r)) : aX C M_X1_greatestDivisor 0 0 (3, [(0, .long v0), (2, .long v2), (4, .int v4)], [], LAY, S) := by
  have hT := ok_X1_greatestDivisor
  unfold X1_greatestDivisor_b3 at hf
  refine aRun_ok hC hT 2 (cf' := (7, [(0, .long v0), (2, .long v2), (4, .int v4)], [.int (100 : Int32), .int v4], LAY, S)) (by rfl) ?_
  refine aCmp_ge hC hT (tgt := 32) rfl (by decide) (fun hc1 => ?_) (fun hc1 => ?_)
  · have hf := aIfT hf hc1
    refine aRun_ok hC hT 1 (cf' := (33, [(0, .long v0), (2, .long v2), (4, .int v4)], [.long v0], LAY, S)) (by rfl) ?_
    have e9 := Option.some.inj hf; subst e9
    exact aRetL hC hT hF rfl rfl
  · have hf := aIfF hf hc1
    refine aRun_ok hC hT 3 (cf' := (13, [(0, .long v0), (2, .long v2), (4, .int v4)], [.int (lg_cmp v2 (0 : Int64))], LAY, S)) (by rfl) ?_
    refine aIf_eq hC hT (tgt := 32) rfl (by decide) (fun hc2 => ?_) (fun hc2 => ?_)
    · have hf := aIfT hf hc2
      refine aRun_ok hC hT 1 (cf' := (33, [(0, .long v0), (2, .long v2), (4, .int v4)], [.long v0], LAY, S)) (by rfl) ?_
      have e9 := Option.some.inj hf; subst e9
      exact aRetL hC hT hF rfl rfl
    · have hf := aIfF hf hc2
      refine aRun_ok hC hT 2 (cf' := (18, [(0, .long v0), (2, .long v2), (4, .int v4)], [.long v2, .long v0], LAY, S)) (by rfl) ?_
      obtain ⟨hy3, hf⟩ := aGdE hf
      refine aLrem hC hT rfl hy3 ?_
      refine aRun_ok hC hT 7 (cf' := (3, [(4, .int (v4 + (1 : Int32))), (2, .long (v0 - v0 / v2 * v2)), (0, .long v2), (5, .long (v0 - v0 / v2 * v2))], [], LAY, S)) (by rfl) ?_
      refine aLocs [2, 1, 0] (lv' := [(0, .long v2), (2, .long (v0 - v0 / v2 * v2)), (4, .int (v4 + (1 : Int32)))]) rfl ?_
      exact hrec3 v2 (v0 - v0 / v2 * v2) (v4 + (1 : Int32)) hf
def X1_greatestDivisor_l3 (N : Nat) : Nat → Int64 → Int64 → Int32 → Option (Int64)
  | 0 => fun _ _ _ => none
  | n + 1 => X1_greatestDivisor_b3 N (X1_greatestDivisor_l3 N n)
theorem X1_greatestDivisor_l3_ok {C : aC} {N : Nat} {S : aSt} (hC : aCx C M_X1_greatestDivisor) {r : Int64} (hF : aFin C (some (.long r)) LAY S 0 0) : ∀ (n : Nat) (v0 : Int64) (v2 : Int64) (v4 : Int32), X1_greatestDivisor_l3 N n v0 v2 v4 = (some r) → aX C M_X1_greatestDivisor 0 0 (3, [(0, .long v0), (2, .long v2), (4, .int v4)], [], LAY, S)
  | 0, _, _, _,  h => nomatch (show (none : Option (Int64)) = some _ from h)
  | n + 1, v0, v2, v4,  h => X1_greatestDivisor_b3_ok hC hF (fun v0 v2 v4 h => X1_greatestDivisor_l3_ok hC hF n v0 v2 v4 h) v0 v2 v4 h
def X1_greatestDivisor (N : Nat) (a0 : Int64) (a2 : Int64) : Option (Int64) := (X1_greatestDivisor_l3 N N a0 a2 (0 : Int32))
set_option maxHeartbeats 4000000 in
set_option maxRecDepth 100000 in
theorem J_X1_greatestDivisor (l : Launch) (g : aWg) (N : Nat) (a0 : Int64) (a2 : Int64) (S : aSt) {r : Int64} (hf : X1_greatestDivisor N a0 a2 = (some r)) : aJ l g yX1_greatestDivisor M_X1_greatestDivisor [.long a0, .long a2] LAY S (some (.long r)) LAY S 0 0 := by
  refine aJ_of (by decide +kernel) rfl (Nat.le_of_ble_eq_true rfl) (fun h => nomatch h) ?_
  intro C hg hl hC hz hF
  subst hg; subst hl
  have hT := ok_X1_greatestDivisor
  unfold X1_greatestDivisor at hf
  show aX C M_X1_greatestDivisor 0 0 (0, [(0, .long a0), (2, .long a2)], [], LAY, S)
  refine aRun_ok hC hT 2 (cf' := (3, [(4, .int (0 : Int32)), (0, .long a0), (2, .long a2)], [], LAY, S)) (by rfl) ?_
  refine aLocs [1, 2, 0] (lv' := [(0, .long a0), (2, .long a2), (4, .int (0 : Int32))]) rfl ?_
  exact X1_greatestDivisor_l3_ok hC hF N a0 a2 (0 : Int32) hf
def X1_lowest_b17 (N : Nat) (v5 : Int64) (s0 : Int64) : Option (Int64) := (if (lg_cmp v5 (0 : Int64)) ≤ (0 : Int32) then some (s0) else (if ¬ v5 = (0 : Int64) then some ((s0 / v5)) else none))
set_option maxHeartbeats 4000000 in
set_option maxRecDepth 100000 in
theorem X1_lowest_b17_ok {C : aC} {N : Nat} {S : aSt} (hC : aCx C M_X1_lowest) {r : Int64} (hF : aFin C (some (.long r)) LAY S 0 0) (v5 : Int64) (s0 : Int64) (hf : X1_lowest_b17 N v5 s0 = (some r)) : aX C M_X1_lowest 0 0 (17, [(5, .long v5)], [.long s0], LAY, S) := by
  have hT := ok_X1_lowest
  unfold X1_lowest_b17 at hf
  refine aRun_ok hC hT 4 (cf' := (23, [(7, .long s0), (5, .long v5)], [.int (lg_cmp v5 (0 : Int64))], LAY, S)) (by rfl) ?_
  refine aIf_le hC hT (tgt := 34) rfl (by decide) (fun hc4 => ?_) (fun hc4 => ?_)
  · have hf := aIfT hf hc4
    refine aRun_ok hC hT 1 (cf' := (36, [(7, .long s0), (5, .long v5)], [.long s0], LAY, S)) (by rfl) ?_
    have e9 := Option.some.inj hf; subst e9
    exact aRetL hC hT hF rfl rfl
  · have hf := aIfF hf hc4
    refine aRun_ok hC hT 2 (cf' := (30, [(7, .long s0), (5, .long v5)], [.long v5, .long s0], LAY, S)) (by rfl) ?_
    obtain ⟨hy5, hf⟩ := aGdE hf
    refine aLdiv hC hT rfl hy5 ?_
    refine aRun_ok hC hT 1 (cf' := (36, [(7, .long s0), (5, .long v5)], [.long (s0 / v5)], LAY, S)) (by rfl) ?_
    have e9 := Option.some.inj hf; subst e9
    exact aRetL hC hT hF rfl rfl
def X1_lowest (N : Nat) (a0 : Int64) (a2 : Int64) (a4 : Int32) : Option (Int64) := (Option.bind (X1_greatestDivisor N a0 a2) (fun w1 => (if a4 = (0 : Int32) then (X1_lowest_b17 N w1 a0) else (X1_lowest_b17 N w1 a2))))
set_option maxHeartbeats 4000000 in
set_option maxRecDepth 100000 in
theorem J_X1_lowest (l : Launch) (g : aWg) (N : Nat) (a0 : Int64) (a2 : Int64) (a4 : Int32) (S : aSt) {r : Int64} (hf : X1_lowest N a0 a2 a4 = (some r)) : aJ l g yX1_lowest M_X1_lowest [.long a0, .long a2, .int a4] LAY S (some (.long r)) LAY S 0 0 := by
  refine aJ_of (by decide +kernel) rfl (Nat.le_of_ble_eq_true rfl) (fun h => nomatch h) ?_
  intro C hg hl hC hz hF
  subst hg; subst hl
  have hT := ok_X1_lowest
  unfold X1_lowest at hf
  show aX C M_X1_lowest 0 0 (0, [(0, .long a0), (2, .long a2), (4, .int a4)], [], LAY, S)
  refine aRun_ok hC hT 2 (cf' := (2, [(0, .long a0), (2, .long a2), (4, .int a4)], [.long a2, .long a0], LAY, S)) (by rfl) ?_
  obtain ⟨w1, ew2, hf⟩ := aBnE hf
  refine aCallS (As := [.long a0, .long a2]) (rest := []) hC hT rfl k_X1_lowest_7.1 _ k_X1_lowest_7.2 (by rfl) (Nat.le_of_ble_eq_true rfl) (by decide) (J_X1_greatestDivisor C.2.2.1 C.1 N a0 a2 S ew2) ?_
  refine aRun_ok hC hT 2 (cf' := (9, [(5, .long w1), (0, .long a0), (2, .long a2), (4, .int a4)], [.int a4], LAY, S)) (by rfl) ?_
  refine aIf_ne hC hT (tgt := 16) rfl (by decide) (fun hc3 => ?_) (fun hc3 => ?_)
  · have hf := aIfF hf hc3
    refine aRun_ok hC hT 1 (cf' := (17, [(5, .long w1), (0, .long a0), (2, .long a2), (4, .int a4)], [.long a2], LAY, S)) (by rfl) ?_
    refine aLocs [0] (lv' := [(5, .long w1)]) rfl ?_
    exact X1_lowest_b17_ok hC hF w1 a2 hf
  · have hf := aIfT hf hc3
    refine aRun_ok hC hT 2 (cf' := (17, [(5, .long w1), (0, .long a0), (2, .long a2), (4, .int a4)], [.long a0], LAY, S)) (by rfl) ?_
    refine aLocs [0] (lv' := [(5, .long w1)]) rfl ?_
    exact X1_lowest_b17_ok hC hF w1 a0 hf
def X10_chance_0 (N : Nat) (a1 : Int32) (a2 : Int32) (S : aSt) : Option (Int64 × aSt) := (Option.bind (X10_workOut_0 N S) (fun w1 => (if a1 < (0 : Int32) then some ((((-2) : Int64), w1)) else (if a1 < (w1.1 22 0) then (aLet (X10_isPart a2) (fun w5 => (if w5 = (0 : Int32) then some ((((-3) : Int64), w1)) else (aLet (X7_slip_22 a1 w1) (fun w8 => (aLet (X8_weight_14 w8 w1) (fun w10 => (Option.bind (X1_lowest N ((100 : Int64) * (w10.toInt64)) (((100 : Int64) * (w1.2.1 22 1)) + (((w1.1 8 3).toInt64) * (w1.2.1 28 1))) a2) (fun w12 => some ((w12, w1))))))))))) else some ((((-2) : Int64), w1))))))
set_option maxHeartbeats 4000000 in
set_option maxRecDepth 100000 in
theorem J_X10_chance_0 (l : Launch) (g : aWg) (N : Nat) (a1 : Int32) (a2 : Int32) (S : aSt) {r : Int64 × aSt} (hf : X10_chance_0 N a1 a2 S = (some r)) : aJ l g yX10_chance M_X10_chance [.ref 0, .int a1, .int a2] LAY S (some (.long r.1)) LAY r.2 0 0 := by
  refine aJ_of (by decide +kernel) rfl (Nat.le_of_ble_eq_true rfl) (fun h => nomatch h) ?_
  intro C hg hl hC hz hF
  subst hg; subst hl
  have hT := ok_X10_chance
  unfold X10_chance_0 at hf
  show aX C M_X10_chance 0 0 (0, [(0, .ref 0), (1, .int a1), (2, .int a2)], [], LAY, S)
  refine aRun_ok hC hT 1 (cf' := (1, [(0, .ref 0), (1, .int a1), (2, .int a2)], [.ref 0], LAY, S)) (by rfl) ?_
  obtain ⟨w1, ew2, hf⟩ := aBnE hf
  refine aCallV (b := 0) (As := []) (rest := []) hC hT rfl k_X10_chance_169.1 _ _ k_X10_chance_169.2 (by decide) (by rfl) (by rfl) (by rfl) (Nat.le_of_ble_eq_true rfl) (by decide) (J_X10_workOut_0 C.2.2.1 C.1 N  S ew2) ?_
  refine aRun_ok hC hT 1 (cf' := (5, [(0, .ref 0), (1, .int a1), (2, .int a2)], [.int a1], LAY, w1)) (by rfl) ?_
  refine aIf_lt hC hT (tgt := 19) rfl (by decide) (fun hc3 => ?_) (fun hc3 => ?_)
  · have hf := aIfT hf hc3
    refine aRun_ok hC hT 1 (cf' := (22, [(0, .ref 0), (1, .int a1), (2, .int a2)], [.long ((-2) : Int64)], LAY, w1)) (by rfl) ?_
    have e9 := Option.some.inj hf; subst e9
    exact aRetL hC hT hF rfl rfl
  · have hf := aIfF hf hc3
    refine aRun_ok hC hT 4 (cf' := (16, [(0, .ref 0), (1, .int a1), (2, .int a2)], [.int (w1.1 22 0), .int a1], LAY, w1)) (by rfl) ?_
    refine aCmp_lt hC hT (tgt := 23) rfl (by decide) (fun hc4 => ?_) (fun hc4 => ?_)
    · have hf := aIfT hf hc4
      refine aRun_ok hC hT 1 (cf' := (24, [(0, .ref 0), (1, .int a1), (2, .int a2)], [.int a2], LAY, w1)) (by rfl) ?_
      obtain ⟨w5, ew6, hf⟩ := aLetE hf
      refine aCallS (As := [.int a2]) (rest := []) hC hT rfl k_X10_chance_197.1 _ k_X10_chance_197.2 (by rfl) (Nat.le_of_ble_eq_true rfl) (by decide) (J_X10_isPart C.2.2.1 C.1 a2 w1 ew6) ?_
      refine aIf_ne hC hT (tgt := 34) rfl (by decide) (fun hc7 => ?_) (fun hc7 => ?_)
      · have hf := aIfF hf hc7
        refine aRun_ok hC hT 21 (cf' := (75, [(3, .long (((100 : Int64) * (w1.2.1 22 1)) + (((w1.1 8 3).toInt64) * (w1.2.1 28 1)))), (0, .ref 0), (1, .int a1), (2, .int a2)], [.int a1, .ref 22, .ref 14, .long (100 : Int64)], LAY, w1)) (by rfl) ?_
        obtain ⟨w8, ew9, hf⟩ := aLetE hf
        refine aCallV (b := 22) (As := [.int a1]) (rest := [.ref 14, .long (100 : Int64)]) hC hT rfl k_X10_chance_173.1 _ _ k_X10_chance_173.2 (by decide) (by rfl) (by rfl) (by rfl) (Nat.le_of_ble_eq_true rfl) (by decide) (J_X7_slip_22 C.2.2.1 C.1 a1 w1 ew9) ?_
        obtain ⟨w10, ew11, hf⟩ := aLetE hf
        refine aCallV (b := 14) (As := [.int w8]) (rest := [.long (100 : Int64)]) hC hT rfl k_X10_chance_204.1 _ _ k_X10_chance_204.2 (by decide) (by rfl) (by rfl) (by rfl) (Nat.le_of_ble_eq_true rfl) (by decide) (J_X8_weight_14 C.2.2.1 C.1 w8 w1 ew11) ?_
        refine aRun_ok hC hT 4 (cf' := (85, [(3, .long (((100 : Int64) * (w1.2.1 22 1)) + (((w1.1 8 3).toInt64) * (w1.2.1 28 1)))), (0, .ref 0), (1, .int a1), (2, .int a2)], [.int a2, .long (((100 : Int64) * (w1.2.1 22 1)) + (((w1.1 8 3).toInt64) * (w1.2.1 28 1))), .long ((100 : Int64) * (w10.toInt64))], LAY, w1)) (by rfl) ?_
        obtain ⟨w12, ew13, hf⟩ := aBnE hf
        refine aCallS (As := [.long ((100 : Int64) * (w10.toInt64)), .long (((100 : Int64) * (w1.2.1 22 1)) + (((w1.1 8 3).toInt64) * (w1.2.1 28 1))), .int a2]) (rest := []) hC hT rfl k_X10_chance_207.1 _ k_X10_chance_207.2 (by rfl) (Nat.le_of_ble_eq_true rfl) (by decide) (J_X1_lowest C.2.2.1 C.1 N ((100 : Int64) * (w10.toInt64)) (((100 : Int64) * (w1.2.1 22 1)) + (((w1.1 8 3).toInt64) * (w1.2.1 28 1))) a2 w1 ew13) ?_
        have e9 := Option.some.inj hf; subst e9
        exact aRetL hC hT hF rfl rfl
      · have hf := aIfT hf hc7
        refine aRun_ok hC hT 1 (cf' := (33, [(0, .ref 0), (1, .int a1), (2, .int a2)], [.long ((-3) : Int64)], LAY, w1)) (by rfl) ?_
        have e9 := Option.some.inj hf; subst e9
        exact aRetL hC hT hF rfl rfl
    · have hf := aIfF hf hc4
      refine aRun_ok hC hT 1 (cf' := (22, [(0, .ref 0), (1, .int a1), (2, .int a2)], [.long ((-2) : Int64)], LAY, w1)) (by rfl) ?_
      have e9 := Option.some.inj hf; subst e9
      exact aRetL hC hT hF rfl rfl
def X10_count_0 (N : Nat) (a1 : Int32) (S : aSt) : Option (Int32) := (if a1.toInt < 0 ∨ 5 < a1.toInt then some (((-3) : Int32)) else (if a1 = (0 : Int32) then some ((S.1 8 0)) else (if a1 = (1 : Int32) then some ((S.1 1 0)) else (if a1 = (2 : Int32) then some ((S.1 38 0)) else (if a1 = (3 : Int32) then some ((S.1 8 1)) else (if a1 = (4 : Int32) then some ((S.1 8 2)) else (if a1 = (5 : Int32) then some ((S.1 8 3)) else none)))))))
set_option maxHeartbeats 4000000 in
set_option maxRecDepth 100000 in
theorem J_X10_count_0 (l : Launch) (g : aWg) (N : Nat) (a1 : Int32) (S : aSt) {r : Int32} (hf : X10_count_0 N a1 S = (some r)) : aJ l g yX10_count M_X10_count [.ref 0, .int a1] LAY S (some (.int r)) LAY S 0 0 := by
  refine aJ_of (by decide +kernel) rfl (Nat.le_of_ble_eq_true rfl) (fun h => nomatch h) ?_
  intro C hg hl hC hz hF
  subst hg; subst hl
  have hT := ok_X10_count
  unfold X10_count_0 at hf
  show aX C M_X10_count 0 0 (0, [(0, .ref 0), (1, .int a1)], [], LAY, S)
  refine aRun_ok hC hT 1 (cf' := (1, [(0, .ref 0), (1, .int a1)], [.int a1], LAY, S)) (by rfl) ?_
  rcases aTswE hf with ⟨hc1, hf⟩ | ⟨hc1, hf⟩
  · refine aTswD hC hT (tgt := 88) rfl hc1 (by decide) ?_
    refine aRun_ok hC hT 1 (cf' := (90, [(0, .ref 0), (1, .int a1)], [.int ((-3) : Int32)], LAY, S)) (by rfl) ?_
    have e9 := Option.some.inj hf; subst e9
    exact aRetI hC hT hF rfl rfl
  · rcases aIfE hf with ⟨hc2, hf⟩ | ⟨-, hf⟩
    · refine aTsw hC hT (off := 39) (tgt := 40) rfl (0 : Int32) hc2 (by decide) (by decide) (by rfl) (by decide) ?_
      refine aRun_ok hC hT 3 (cf' := (47, [(0, .ref 0), (1, .int a1)], [.int (S.1 8 0)], LAY, S)) (by rfl) ?_
      have e9 := Option.some.inj hf; subst e9
      exact aRetI hC hT hF rfl rfl
    · rcases aIfE hf with ⟨hc3, hf⟩ | ⟨-, hf⟩
      · refine aTsw hC hT (off := 47) (tgt := 48) rfl (1 : Int32) hc3 (by decide) (by decide) (by rfl) (by decide) ?_
        refine aRun_ok hC hT 3 (cf' := (55, [(0, .ref 0), (1, .int a1)], [.int (S.1 1 0)], LAY, S)) (by rfl) ?_
        have e9 := Option.some.inj hf; subst e9
        exact aRetI hC hT hF rfl rfl
      · rcases aIfE hf with ⟨hc4, hf⟩ | ⟨-, hf⟩
        · refine aTsw hC hT (off := 55) (tgt := 56) rfl (2 : Int32) hc4 (by decide) (by decide) (by rfl) (by decide) ?_
          refine aRun_ok hC hT 3 (cf' := (63, [(0, .ref 0), (1, .int a1)], [.int (S.1 38 0)], LAY, S)) (by rfl) ?_
          have e9 := Option.some.inj hf; subst e9
          exact aRetI hC hT hF rfl rfl
        · rcases aIfE hf with ⟨hc5, hf⟩ | ⟨-, hf⟩
          · refine aTsw hC hT (off := 63) (tgt := 64) rfl (3 : Int32) hc5 (by decide) (by decide) (by rfl) (by decide) ?_
            refine aRun_ok hC hT 3 (cf' := (71, [(0, .ref 0), (1, .int a1)], [.int (S.1 8 1)], LAY, S)) (by rfl) ?_
            have e9 := Option.some.inj hf; subst e9
            exact aRetI hC hT hF rfl rfl
          · rcases aIfE hf with ⟨hc6, hf⟩ | ⟨-, hf⟩
            · refine aTsw hC hT (off := 71) (tgt := 72) rfl (4 : Int32) hc6 (by decide) (by decide) (by rfl) (by decide) ?_
              refine aRun_ok hC hT 3 (cf' := (79, [(0, .ref 0), (1, .int a1)], [.int (S.1 8 2)], LAY, S)) (by rfl) ?_
              have e9 := Option.some.inj hf; subst e9
              exact aRetI hC hT hF rfl rfl
            · rcases aIfE hf with ⟨hc7, hf⟩ | ⟨-, hf⟩
              · refine aTsw hC hT (off := 79) (tgt := 80) rfl (5 : Int32) hc7 (by decide) (by decide) (by rfl) (by decide) ?_
                refine aRun_ok hC hT 3 (cf' := (87, [(0, .ref 0), (1, .int a1)], [.int (S.1 8 3)], LAY, S)) (by rfl) ?_
                have e9 := Option.some.inj hf; subst e9
                exact aRetI hC hT hF rfl rfl
              · cases hf
def X2_holds_8 (a1 : Int32) (S : aSt) : Int32 := (if a1 < (0 : Int32) then (0 : Int32) else (if (S.1 8 0) ≤ a1 then (0 : Int32) else (1 : Int32)))
set_option maxHeartbeats 4000000 in
set_option maxRecDepth 100000 in
theorem J_X2_holds_8 (l : Launch) (g : aWg) (a1 : Int32) (S : aSt) {r : Int32} (hf : X2_holds_8 a1 S = r) : aJ l g yX2_holds M_X2_holds [.ref 8, .int a1] LAY S (some (.int r)) LAY S 0 0 := by
  refine aJ_of (by decide +kernel) rfl (Nat.le_of_ble_eq_true rfl) (fun h => nomatch h) ?_
  intro C hg hl hC hz hF
  subst hg; subst hl
  have hT := ok_X2_holds
  unfold X2_holds_8 at hf
  show aX C M_X2_holds 0 0 (0, [(0, .ref 8), (1, .int a1)], [], LAY, S)
  refine aRun_ok hC hT 1 (cf' := (1, [(0, .ref 8), (1, .int a1)], [.int a1], LAY, S)) (by rfl) ?_
  refine aIf_lt hC hT (tgt := 16) rfl (by decide) (fun hc1 => ?_) (fun hc1 => ?_)
  · have hf := aIfT hf hc1
    refine aRun_ok hC hT 1 (cf' := (17, [(0, .ref 8), (1, .int a1)], [.int (0 : Int32)], LAY, S)) (by rfl) ?_
    subst hf
    exact aRetB hC hT hF rfl (Or.inl rfl) rfl
  · have hf := aIfF hf hc1
    refine aRun_ok hC hT 3 (cf' := (9, [(0, .ref 8), (1, .int a1)], [.int (S.1 8 0), .int a1], LAY, S)) (by rfl) ?_
    refine aCmp_ge hC hT (tgt := 16) rfl (by decide) (fun hc2 => ?_) (fun hc2 => ?_)
    · have hf := aIfT hf hc2
      refine aRun_ok hC hT 1 (cf' := (17, [(0, .ref 8), (1, .int a1)], [.int (0 : Int32)], LAY, S)) (by rfl) ?_
      subst hf
      exact aRetB hC hT hF rfl (Or.inl rfl) rfl
    · have hf := aIfF hf hc2
      refine aRun_ok hC hT 2 (cf' := (17, [(0, .ref 8), (1, .int a1)], [.int (1 : Int32)], LAY, S)) (by rfl) ?_
      subst hf
      exact aRetB hC hT hF rfl (Or.inr rfl) rfl
def X10_entry_0 (a1 : Int32) (a2 : Int32) (S : aSt) : Int32 := (aLet (X2_holds_8 a1 S) (fun w1 => (if w1 = (0 : Int32) then ((-2) : Int32) else (if a2 < (0 : Int32) then ((-3) : Int32) else (if a2 < (5 : Int32) then (aLet (X2_told_8 a1 a2 S) (fun w6 => w6)) else ((-3) : Int32))))))
set_option maxHeartbeats 4000000 in
set_option maxRecDepth 100000 in
theorem J_X10_entry_0 (l : Launch) (g : aWg) (a1 : Int32) (a2 : Int32) (S : aSt) {r : Int32} (hf : X10_entry_0 a1 a2 S = r) : aJ l g yX10_entry M_X10_entry [.ref 0, .int a1, .int a2] LAY S (some (.int r)) LAY S 0 0 := by
  refine aJ_of (by decide +kernel) rfl (Nat.le_of_ble_eq_true rfl) (fun h => nomatch h) ?_
  intro C hg hl hC hz hF
  subst hg; subst hl
  have hT := ok_X10_entry
  unfold X10_entry_0 at hf
  show aX C M_X10_entry 0 0 (0, [(0, .ref 0), (1, .int a1), (2, .int a2)], [], LAY, S)
  refine aRun_ok hC hT 3 (cf' := (5, [(0, .ref 0), (1, .int a1), (2, .int a2)], [.int a1, .ref 8], LAY, S)) (by rfl) ?_
  obtain ⟨w1, ew2, hf⟩ := aLetE hf
  refine aCallV (b := 8) (As := [.int a1]) (rest := []) hC hT rfl k_X10_entry_99.1 _ _ k_X10_entry_99.2 (by decide) (by rfl) (by rfl) (by rfl) (Nat.le_of_ble_eq_true rfl) (by decide) (J_X2_holds_8 C.2.2.1 C.1 a1 S ew2) ?_
  refine aIf_ne hC hT (tgt := 14) rfl (by decide) (fun hc3 => ?_) (fun hc3 => ?_)
  · have hf := aIfF hf hc3
    refine aRun_ok hC hT 1 (cf' := (15, [(0, .ref 0), (1, .int a1), (2, .int a2)], [.int a2], LAY, S)) (by rfl) ?_
    refine aIf_lt hC hT (tgt := 23) rfl (by decide) (fun hc4 => ?_) (fun hc4 => ?_)
    · have hf := aIfT hf hc4
      refine aRun_ok hC hT 1 (cf' := (25, [(0, .ref 0), (1, .int a1), (2, .int a2)], [.int ((-3) : Int32)], LAY, S)) (by rfl) ?_
      subst hf
      exact aRetI hC hT hF rfl rfl
    · have hf := aIfF hf hc4
      refine aRun_ok hC hT 2 (cf' := (20, [(0, .ref 0), (1, .int a1), (2, .int a2)], [.int (5 : Int32), .int a2], LAY, S)) (by rfl) ?_
      refine aCmp_lt hC hT (tgt := 26) rfl (by decide) (fun hc5 => ?_) (fun hc5 => ?_)
      · have hf := aIfT hf hc5
        refine aRun_ok hC hT 4 (cf' := (32, [(0, .ref 0), (1, .int a1), (2, .int a2)], [.int a2, .int a1, .ref 8], LAY, S)) (by rfl) ?_
        obtain ⟨w6, ew7, hf⟩ := aLetE hf
        refine aCallV (b := 8) (As := [.int a1, .int a2]) (rest := []) hC hT rfl k_X10_entry_103.1 _ _ k_X10_entry_103.2 (by decide) (by rfl) (by rfl) (by rfl) (Nat.le_of_ble_eq_true rfl) (by decide) (J_X2_told_8 C.2.2.1 C.1 a1 a2 S ew7) ?_
        subst hf
        exact aRetI hC hT hF rfl rfl
      · have hf := aIfF hf hc5
        refine aRun_ok hC hT 1 (cf' := (25, [(0, .ref 0), (1, .int a1), (2, .int a2)], [.int ((-3) : Int32)], LAY, S)) (by rfl) ?_
        subst hf
        exact aRetI hC hT hF rfl rfl
  · have hf := aIfT hf hc3
    refine aRun_ok hC hT 1 (cf' := (13, [(0, .ref 0), (1, .int a1), (2, .int a2)], [.int ((-2) : Int32)], LAY, S)) (by rfl) ?_
    subst hf
    exact aRetI hC hT hF rfl rfl
def X10_erase_0 (S : aSt) : Int32 × aSt := ((S.1 1 0), (aI S 1 0 (0 : Int32)))
set_option maxHeartbeats 4000000 in
set_option maxRecDepth 100000 in
theorem J_X10_erase_0 (l : Launch) (g : aWg) (S : aSt) {r : Int32 × aSt} (hf : X10_erase_0 S = r) : aJ l g yX10_erase M_X10_erase [.ref 0] LAY S (some (.int r.1)) LAY r.2 0 0 := by
  refine aJ_of (by decide +kernel) rfl (Nat.le_of_ble_eq_true rfl) (fun h => nomatch h) ?_
  intro C hg hl hC hz hF
  subst hg; subst hl
  have hT := ok_X10_erase
  unfold X10_erase_0 at hf
  show aX C M_X10_erase 0 0 (0, [(0, .ref 0)], [], LAY, S)
  refine aRun_ok hC hT 9 (cf' := (17, [(1, .int (S.1 1 0)), (0, .ref 0)], [.int (S.1 1 0)], LAY, (aI S 1 0 (0 : Int32)))) (by rfl) ?_
  subst hf
  exact aRetI hC hT hF rfl rfl
def X10_fault_0 (N : Nat) (S : aSt) : Option (Int32 × aSt) := (Option.bind (X9_read_1 N S) (fun w1 => some ((w1.1, w1.2))))
set_option maxHeartbeats 4000000 in
set_option maxRecDepth 100000 in
theorem J_X10_fault_0 (l : Launch) (g : aWg) (N : Nat) (S : aSt) {r : Int32 × aSt} (hf : X10_fault_0 N S = (some r)) : aJ l g yX10_fault M_X10_fault [.ref 0] LAY S (some (.int r.1)) LAY r.2 0 0 := by
  refine aJ_of (by decide +kernel) rfl (Nat.le_of_ble_eq_true rfl) (fun h => nomatch h) ?_
  intro C hg hl hC hz hF
  subst hg; subst hl
  have hT := ok_X10_fault
  unfold X10_fault_0 at hf
  show aX C M_X10_fault 0 0 (0, [(0, .ref 0)], [], LAY, S)
  refine aRun_ok hC hT 2 (cf' := (4, [(0, .ref 0)], [.ref 1], LAY, S)) (by rfl) ?_
  obtain ⟨w1, ew2, hf⟩ := aBnE hf
  refine aCallV (b := 1) (As := []) (rest := []) hC hT rfl k_X10_fault_88.1 _ _ k_X10_fault_88.2 (by decide) (by rfl) (by rfl) (by rfl) (Nat.le_of_ble_eq_true rfl) (by decide) (J_X9_read_1 C.2.2.1 C.1 N  S ew2) ?_
  have e9 := Option.some.inj hf; subst e9
  exact aRetI hC hT hF rfl rfl
def X10_hide_0 (N : Nat) (a1 : Int32) (S : aSt) : Option (Int64 × aSt) := (if a1 < (0 : Int32) then some ((((-3) : Int64), S)) else (if a1 ≤ (1 : Int32) then (Option.bind (X10_workOut_0 N S) (fun w3 => (if a1 = (0 : Int32) then some (((w3.2.1 29 0), w3)) else some (((w3.2.1 29 1), w3))))) else some ((((-3) : Int64), S))))
set_option maxHeartbeats 4000000 in
set_option maxRecDepth 100000 in
theorem J_X10_hide_0 (l : Launch) (g : aWg) (N : Nat) (a1 : Int32) (S : aSt) {r : Int64 × aSt} (hf : X10_hide_0 N a1 S = (some r)) : aJ l g yX10_hide M_X10_hide [.ref 0, .int a1] LAY S (some (.long r.1)) LAY r.2 0 0 := by
  refine aJ_of (by decide +kernel) rfl (Nat.le_of_ble_eq_true rfl) (fun h => nomatch h) ?_
  intro C hg hl hC hz hF
  subst hg; subst hl
  have hT := ok_X10_hide
  unfold X10_hide_0 at hf
  show aX C M_X10_hide 0 0 (0, [(0, .ref 0), (1, .int a1)], [], LAY, S)
  refine aRun_ok hC hT 1 (cf' := (1, [(0, .ref 0), (1, .int a1)], [.int a1], LAY, S)) (by rfl) ?_
  refine aIf_lt hC hT (tgt := 9) rfl (by decide) (fun hc1 => ?_) (fun hc1 => ?_)
  · have hf := aIfT hf hc1
    refine aRun_ok hC hT 1 (cf' := (12, [(0, .ref 0), (1, .int a1)], [.long ((-3) : Int64)], LAY, S)) (by rfl) ?_
    have e9 := Option.some.inj hf; subst e9
    exact aRetL hC hT hF rfl rfl
  · have hf := aIfF hf hc1
    refine aRun_ok hC hT 2 (cf' := (6, [(0, .ref 0), (1, .int a1)], [.int (1 : Int32), .int a1], LAY, S)) (by rfl) ?_
    refine aCmp_le hC hT (tgt := 13) rfl (by decide) (fun hc2 => ?_) (fun hc2 => ?_)
    · have hf := aIfT hf hc2
      refine aRun_ok hC hT 1 (cf' := (14, [(0, .ref 0), (1, .int a1)], [.ref 0], LAY, S)) (by rfl) ?_
      obtain ⟨w3, ew4, hf⟩ := aBnE hf
      refine aCallV (b := 0) (As := []) (rest := []) hC hT rfl k_X10_hide_169.1 _ _ k_X10_hide_169.2 (by decide) (by rfl) (by rfl) (by rfl) (Nat.le_of_ble_eq_true rfl) (by decide) (J_X10_workOut_0 C.2.2.1 C.1 N  S ew4) ?_
      refine aRun_ok hC hT 1 (cf' := (18, [(0, .ref 0), (1, .int a1)], [.int a1], LAY, w3)) (by rfl) ?_
      refine aIf_ne hC hT (tgt := 31) rfl (by decide) (fun hc5 => ?_) (fun hc5 => ?_)
      · have hf := aIfF hf hc5
        refine aRun_ok hC hT 3 (cf' := (38, [(0, .ref 0), (1, .int a1)], [.long (w3.2.1 29 1)], LAY, w3)) (by rfl) ?_
        have e9 := Option.some.inj hf; subst e9
        exact aRetL hC hT hF rfl rfl
      · have hf := aIfT hf hc5
        refine aRun_ok hC hT 4 (cf' := (38, [(0, .ref 0), (1, .int a1)], [.long (w3.2.1 29 0)], LAY, w3)) (by rfl) ?_
        have e9 := Option.some.inj hf; subst e9
        exact aRetL hC hT hF rfl rfl
    · have hf := aIfF hf hc2
      refine aRun_ok hC hT 1 (cf' := (12, [(0, .ref 0), (1, .int a1)], [.long ((-3) : Int64)], LAY, S)) (by rfl) ?_
      have e9 := Option.some.inj hf; subst e9
      exact aRetL hC hT hF rfl rfl
def X10_isSide (a0 : Int32) : Int32 := (if a0 = (0 : Int32) then (1 : Int32) else (if a0 = (1 : Int32) then (1 : Int32) else (0 : Int32)))
set_option maxHeartbeats 4000000 in
set_option maxRecDepth 100000 in
theorem J_X10_isSide (l : Launch) (g : aWg) (a0 : Int32) (S : aSt) {r : Int32} (hf : X10_isSide a0 = r) : aJ l g yX10_isSide M_X10_isSide [.int a0] LAY S (some (.int r)) LAY S 0 0 := by
  refine aJ_of (by decide +kernel) rfl (Nat.le_of_ble_eq_true rfl) (fun h => nomatch h) ?_
  intro C hg hl hC hz hF
  subst hg; subst hl
  have hT := ok_X10_isSide
  unfold X10_isSide at hf
  show aX C M_X10_isSide 0 0 (0, [(0, .int a0)], [], LAY, S)
  refine aRun_ok hC hT 1 (cf' := (1, [(0, .int a0)], [.int a0], LAY, S)) (by rfl) ?_
  refine aIf_eq hC hT (tgt := 9) rfl (by decide) (fun hc1 => ?_) (fun hc1 => ?_)
  · have hf := aIfT hf hc1
    refine aRun_ok hC hT 2 (cf' := (14, [(0, .int a0)], [.int (1 : Int32)], LAY, S)) (by rfl) ?_
    subst hf
    exact aRetB hC hT hF rfl (Or.inr rfl) rfl
  · have hf := aIfF hf hc1
    refine aRun_ok hC hT 2 (cf' := (6, [(0, .int a0)], [.int (1 : Int32), .int a0], LAY, S)) (by rfl) ?_
    refine aCmp_ne hC hT (tgt := 13) rfl (by decide) (fun hc2 => ?_) (fun hc2 => ?_)
    · have hf := aIfF hf hc2
      refine aRun_ok hC hT 1 (cf' := (14, [(0, .int a0)], [.int (0 : Int32)], LAY, S)) (by rfl) ?_
      subst hf
      exact aRetB hC hT hF rfl (Or.inl rfl) rfl
    · have hf := aIfT hf hc2
      refine aRun_ok hC hT 2 (cf' := (14, [(0, .int a0)], [.int (1 : Int32)], LAY, S)) (by rfl) ?_
      subst hf
      exact aRetB hC hT hF rfl (Or.inr rfl) rfl
def X0_isTurn_b2 (N : Nat) (rec2 : Int32 → Int32 → Int32 → Option (Int32)) (v0 : Int32) (v1 : Int32) (v2 : Int32) : Option (Int32) := (Option.bind (X0_many N v0) (fun w1 => (if (w1 - (1 : Int32)) ≤ v2 then some ((0 : Int32)) else (Option.bind (X0_turned N v0 v2) (fun w4 => (if w4 = v1 then some ((1 : Int32)) else (rec2 v0 v1 (v2 + (1 : Int32)))))))))
set_option maxHeartbeats 4000000 in
set_option maxRecDepth 100000 in
theorem X0_isTurn_b2_ok {C : aC} {N : Nat} {S : aSt} {rec2 : Int32 → Int32 → Int32 → Option (Int32)} (hC : aCx C M_X0_isTurn) {r : Int32} (hF : aFin C (some (.int r)) LAY S 0 0) (hrec2 : ∀ (v0 : Int32) (v1 : Int32) (v2 : Int32), rec2 v0 v1 v2 = (some r) → aX C M_X0_isTurn 0 0 (2, [(0, .int v0), (1, .int v1), (2, .int v2)], [], LAY, S)) (v0 : Int32) (v1 : Int32) (v2 : Int32) (hf : X0_isTurn_b2 N rec2 v0 v1 v2 = (some r)) : aX C M_X0_isTurn 0 0 (2, [(0, .int v0), (1, .int v1), (2, .int v2)], [], LAY, S) := by
  have hT := ok_X0_isTurn
  unfold X0_isTurn_b2 at hf
  refine aRun_ok hC hT 2 (cf' := (4, [(0, .int v0), (1, .int v1), (2, .int v2)], [.int v0, .int v2], LAY, S)) (by rfl) ?_
  obtain ⟨w1, ew2, hf⟩ := aBnE hf
  refine aCallS (As := [.int v0]) (rest := [.int v2]) hC hT rfl k_X0_isTurn_36.1 _ k_X0_isTurn_36.2 (by rfl) (Nat.le_of_ble_eq_true rfl) (by decide) (J_X0_many C.2.2.1 C.1 N v0 S ew2) ?_
  refine aRun_ok hC hT 2 (cf' := (9, [(0, .int v0), (1, .int v1), (2, .int v2)], [.int (w1 - (1 : Int32)), .int v2], LAY, S)) (by rfl) ?_
  refine aCmp_ge hC hT (tgt := 29) rfl (by decide) (fun hc3 => ?_) (fun hc3 => ?_)
  · have hf := aIfT hf hc3
    refine aRun_ok hC hT 1 (cf' := (30, [(0, .int v0), (1, .int v1), (2, .int v2)], [.int (0 : Int32)], LAY, S)) (by rfl) ?_
    have e9 := Option.some.inj hf; subst e9
    exact aRetB hC hT hF rfl (Or.inl rfl) rfl
  · have hf := aIfF hf hc3
    refine aRun_ok hC hT 2 (cf' := (14, [(0, .int v0), (1, .int v1), (2, .int v2)], [.int v2, .int v0], LAY, S)) (by rfl) ?_
    obtain ⟨w4, ew5, hf⟩ := aBnE hf
    refine aCallS (As := [.int v0, .int v2]) (rest := []) hC hT rfl k_X0_isTurn_39.1 _ k_X0_isTurn_39.2 (by rfl) (Nat.le_of_ble_eq_true rfl) (by decide) (J_X0_turned C.2.2.1 C.1 N v0 v2 S ew5) ?_
    refine aRun_ok hC hT 1 (cf' := (18, [(0, .int v0), (1, .int v1), (2, .int v2)], [.int v1, .int w4], LAY, S)) (by rfl) ?_
    refine aCmp_ne hC hT (tgt := 23) rfl (by decide) (fun hc6 => ?_) (fun hc6 => ?_)
    · have hf := aIfF hf hc6
      refine aRun_ok hC hT 2 (cf' := (2, [(2, .int (v2 + (1 : Int32))), (0, .int v0), (1, .int v1)], [], LAY, S)) (by rfl) ?_
      refine aLocs [1, 2, 0] (lv' := [(0, .int v0), (1, .int v1), (2, .int (v2 + (1 : Int32)))]) rfl ?_
      exact hrec2 v0 v1 (v2 + (1 : Int32)) hf
    · have hf := aIfT hf hc6
      refine aRun_ok hC hT 1 (cf' := (22, [(0, .int v0), (1, .int v1), (2, .int v2)], [.int (1 : Int32)], LAY, S)) (by rfl) ?_
      have e9 := Option.some.inj hf; subst e9
      exact aRetB hC hT hF rfl (Or.inr rfl) rfl
def X0_isTurn_l2 (N : Nat) : Nat → Int32 → Int32 → Int32 → Option (Int32)
  | 0 => fun _ _ _ => none
  | n + 1 => X0_isTurn_b2 N (X0_isTurn_l2 N n)
theorem X0_isTurn_l2_ok {C : aC} {N : Nat} {S : aSt} (hC : aCx C M_X0_isTurn) {r : Int32} (hF : aFin C (some (.int r)) LAY S 0 0) : ∀ (n : Nat) (v0 : Int32) (v1 : Int32) (v2 : Int32), X0_isTurn_l2 N n v0 v1 v2 = (some r) → aX C M_X0_isTurn 0 0 (2, [(0, .int v0), (1, .int v1), (2, .int v2)], [], LAY, S)
  | 0, _, _, _,  h => nomatch (show (none : Option (Int32)) = some _ from h)
  | n + 1, v0, v1, v2,  h => X0_isTurn_b2_ok hC hF (fun v0 v1 v2 h => X0_isTurn_l2_ok hC hF n v0 v1 v2 h) v0 v1 v2 h
def X0_isTurn (N : Nat) (a0 : Int32) (a1 : Int32) : Option (Int32) := (X0_isTurn_l2 N N a0 a1 (0 : Int32))
set_option maxHeartbeats 4000000 in
set_option maxRecDepth 100000 in
theorem J_X0_isTurn (l : Launch) (g : aWg) (N : Nat) (a0 : Int32) (a1 : Int32) (S : aSt) {r : Int32} (hf : X0_isTurn N a0 a1 = (some r)) : aJ l g yX0_isTurn M_X0_isTurn [.int a0, .int a1] LAY S (some (.int r)) LAY S 0 0 := by
  refine aJ_of (by decide +kernel) rfl (Nat.le_of_ble_eq_true rfl) (fun h => nomatch h) ?_
  intro C hg hl hC hz hF
  subst hg; subst hl
  have hT := ok_X0_isTurn
  unfold X0_isTurn at hf
  show aX C M_X0_isTurn 0 0 (0, [(0, .int a0), (1, .int a1)], [], LAY, S)
  refine aRun_ok hC hT 2 (cf' := (2, [(2, .int (0 : Int32)), (0, .int a0), (1, .int a1)], [], LAY, S)) (by rfl) ?_
  refine aLocs [1, 2, 0] (lv' := [(0, .int a0), (1, .int a1), (2, .int (0 : Int32))]) rfl ?_
  exact X0_isTurn_l2_ok hC hF N a0 a1 (0 : Int32) hf
def X0_isOneFigure_b47 (N : Nat) (v2 : Int32) : Option (Int32) := (if v2 = (1 : Int32) then some ((1 : Int32)) else some ((0 : Int32)))
set_option maxHeartbeats 4000000 in
set_option maxRecDepth 100000 in
theorem X0_isOneFigure_b47_ok {C : aC} {N : Nat} {S : aSt} (hC : aCx C M_X0_isOneFigure) {r : Int32} (hF : aFin C (some (.int r)) LAY S 0 0) (v2 : Int32) (hf : X0_isOneFigure_b47 N v2 = (some r)) : aX C M_X0_isOneFigure 0 0 (47, [(2, .int v2)], [], LAY, S) := by
  have hT := ok_X0_isOneFigure
  unfold X0_isOneFigure_b47 at hf
  refine aRun_ok hC hT 2 (cf' := (49, [(2, .int v2)], [.int (1 : Int32), .int v2], LAY, S)) (by rfl) ?_
  refine aCmp_ne hC hT (tgt := 56) rfl (by decide) (fun hc9 => ?_) (fun hc9 => ?_)
  · have hf := aIfF hf hc9
    refine aRun_ok hC hT 1 (cf' := (57, [(2, .int v2)], [.int (0 : Int32)], LAY, S)) (by rfl) ?_
    have e9 := Option.some.inj hf; subst e9
    exact aRetB hC hT hF rfl (Or.inl rfl) rfl
  · have hf := aIfT hf hc9
    refine aRun_ok hC hT 2 (cf' := (57, [(2, .int v2)], [.int (1 : Int32)], LAY, S)) (by rfl) ?_
    have e9 := Option.some.inj hf; subst e9
    exact aRetB hC hT hF rfl (Or.inr rfl) rfl
def X0_isOneFigure_b41 (N : Nat) (rec17 : Int32 → Int32 → Int32 → Int32 → Option (Int32)) (v0 : Int32) (v1 : Int32) (v2 : Int32) (v3 : Int32) : Option (Int32) := (rec17 v0 v1 v2 (v3 + (1 : Int32)))
set_option maxHeartbeats 4000000 in
set_option maxRecDepth 100000 in
theorem X0_isOneFigure_b41_ok {C : aC} {N : Nat} {S : aSt} {rec17 : Int32 → Int32 → Int32 → Int32 → Option (Int32)} (hC : aCx C M_X0_isOneFigure) {r : Int32} (hF : aFin C (some (.int r)) LAY S 0 0) (hrec17 : ∀ (v0 : Int32) (v1 : Int32) (v2 : Int32) (v3 : Int32), rec17 v0 v1 v2 v3 = (some r) → aX C M_X0_isOneFigure 0 0 (17, [(0, .int v0), (1, .int v1), (2, .int v2), (3, .int v3)], [], LAY, S)) (v0 : Int32) (v1 : Int32) (v2 : Int32) (v3 : Int32) (hf : X0_isOneFigure_b41 N rec17 v0 v1 v2 v3 = (some r)) : aX C M_X0_isOneFigure 0 0 (41, [(0, .int v0), (1, .int v1), (2, .int v2), (3, .int v3)], [], LAY, S) := by
  have hT := ok_X0_isOneFigure
  unfold X0_isOneFigure_b41 at hf
  refine aRun_ok hC hT 2 (cf' := (17, [(3, .int (v3 + (1 : Int32))), (0, .int v0), (1, .int v1), (2, .int v2)], [], LAY, S)) (by rfl) ?_
  refine aLocs [1, 2, 3, 0] (lv' := [(0, .int v0), (1, .int v1), (2, .int v2), (3, .int (v3 + (1 : Int32)))]) rfl ?_
  exact hrec17 v0 v1 v2 (v3 + (1 : Int32)) hf
def X0_isOneFigure_b17 (N : Nat) (rec17 : Int32 → Int32 → Int32 → Int32 → Option (Int32)) (v0 : Int32) (v1 : Int32) (v2 : Int32) (v3 : Int32) : Option (Int32) := (Option.bind (X0_many N v0) (fun w6 => (if w6 ≤ v3 then (X0_isOneFigure_b47 N v2) else (Option.bind (X0_at N v0 v3) (fun w10 => (Option.bind (X0_at N v1 v3) (fun w12 => (if w10 = w12 then (X0_isOneFigure_b41 N rec17 v0 v1 v2 v3) else (X0_isOneFigure_b41 N rec17 v0 v1 (v2 + (1 : Int32)) v3)))))))))
set_option maxHeartbeats 4000000 in
set_option maxRecDepth 100000 in
theorem X0_isOneFigure_b17_ok {C : aC} {N : Nat} {S : aSt} {rec17 : Int32 → Int32 → Int32 → Int32 → Option (Int32)} (hC : aCx C M_X0_isOneFigure) {r : Int32} (hF : aFin C (some (.int r)) LAY S 0 0) (hrec17 : ∀ (v0 : Int32) (v1 : Int32) (v2 : Int32) (v3 : Int32), rec17 v0 v1 v2 v3 = (some r) → aX C M_X0_isOneFigure 0 0 (17, [(0, .int v0), (1, .int v1), (2, .int v2), (3, .int v3)], [], LAY, S)) (v0 : Int32) (v1 : Int32) (v2 : Int32) (v3 : Int32) (hf : X0_isOneFigure_b17 N rec17 v0 v1 v2 v3 = (some r)) : aX C M_X0_isOneFigure 0 0 (17, [(0, .int v0), (1, .int v1), (2, .int v2), (3, .int v3)], [], LAY, S) := by
  have hT := ok_X0_isOneFigure
  unfold X0_isOneFigure_b17 at hf
  refine aRun_ok hC hT 2 (cf' := (19, [(0, .int v0), (1, .int v1), (2, .int v2), (3, .int v3)], [.int v0, .int v3], LAY, S)) (by rfl) ?_
  obtain ⟨w6, ew7, hf⟩ := aBnE hf
  refine aCallS (As := [.int v0]) (rest := [.int v3]) hC hT rfl k_X0_isOneFigure_36.1 _ k_X0_isOneFigure_36.2 (by rfl) (Nat.le_of_ble_eq_true rfl) (by decide) (J_X0_many C.2.2.1 C.1 N v0 S ew7) ?_
  refine aCmp_ge hC hT (tgt := 47) rfl (by decide) (fun hc8 => ?_) (fun hc8 => ?_)
  · have hf := aIfT hf hc8
    refine aLocs [2] (lv' := [(2, .int v2)]) rfl ?_
    exact X0_isOneFigure_b47_ok hC hF v2 hf
  · have hf := aIfF hf hc8
    refine aRun_ok hC hT 2 (cf' := (27, [(0, .int v0), (1, .int v1), (2, .int v2), (3, .int v3)], [.int v3, .int v0], LAY, S)) (by rfl) ?_
    obtain ⟨w10, ew11, hf⟩ := aBnE hf
    refine aCallS (As := [.int v0, .int v3]) (rest := []) hC hT rfl k_X0_isOneFigure_43.1 _ k_X0_isOneFigure_43.2 (by rfl) (Nat.le_of_ble_eq_true rfl) (by decide) (J_X0_at C.2.2.1 C.1 N v0 v3 S ew11) ?_
    refine aRun_ok hC hT 2 (cf' := (32, [(0, .int v0), (1, .int v1), (2, .int v2), (3, .int v3)], [.int v3, .int v1, .int w10], LAY, S)) (by rfl) ?_
    obtain ⟨w12, ew13, hf⟩ := aBnE hf
    refine aCallS (As := [.int v1, .int v3]) (rest := [.int w10]) hC hT rfl k_X0_isOneFigure_43.1 _ k_X0_isOneFigure_43.2 (by rfl) (Nat.le_of_ble_eq_true rfl) (by decide) (J_X0_at C.2.2.1 C.1 N v1 v3 S ew13) ?_
    refine aCmp_eq hC hT (tgt := 41) rfl (by decide) (fun hc14 => ?_) (fun hc14 => ?_)
    · have hf := aIfT hf hc14
      exact X0_isOneFigure_b41_ok hC hF hrec17 v0 v1 v2 v3 hf
    · have hf := aIfF hf hc14
      refine aRun_ok hC hT 1 (cf' := (41, [(2, .int (v2 + (1 : Int32))), (0, .int v0), (1, .int v1), (3, .int v3)], [], LAY, S)) (by rfl) ?_
      refine aLocs [1, 2, 0, 3] (lv' := [(0, .int v0), (1, .int v1), (2, .int (v2 + (1 : Int32))), (3, .int v3)]) rfl ?_
      exact X0_isOneFigure_b41_ok hC hF hrec17 v0 v1 (v2 + (1 : Int32)) v3 hf
def X0_isOneFigure_l17 (N : Nat) : Nat → Int32 → Int32 → Int32 → Int32 → Option (Int32)
  | 0 => fun _ _ _ _ => none
  | n + 1 => X0_isOneFigure_b17 N (X0_isOneFigure_l17 N n)
theorem X0_isOneFigure_l17_ok {C : aC} {N : Nat} {S : aSt} (hC : aCx C M_X0_isOneFigure) {r : Int32} (hF : aFin C (some (.int r)) LAY S 0 0) : ∀ (n : Nat) (v0 : Int32) (v1 : Int32) (v2 : Int32) (v3 : Int32), X0_isOneFigure_l17 N n v0 v1 v2 v3 = (some r) → aX C M_X0_isOneFigure 0 0 (17, [(0, .int v0), (1, .int v1), (2, .int v2), (3, .int v3)], [], LAY, S)
  | 0, _, _, _, _,  h => nomatch (show (none : Option (Int32)) = some _ from h)
  | n + 1, v0, v1, v2, v3,  h => X0_isOneFigure_b17_ok hC hF (fun v0 v1 v2 v3 h => X0_isOneFigure_l17_ok hC hF n v0 v1 v2 v3 h) v0 v1 v2 v3 h
def X0_isOneFigure (N : Nat) (a0 : Int32) (a1 : Int32) : Option (Int32) := (Option.bind (X0_many N a0) (fun w1 => (Option.bind (X0_many N a1) (fun w3 => (if w1 = w3 then (X0_isOneFigure_l17 N N a0 a1 (0 : Int32) (0 : Int32)) else some ((0 : Int32)))))))
set_option maxHeartbeats 4000000 in
set_option maxRecDepth 100000 in
theorem J_X0_isOneFigure (l : Launch) (g : aWg) (N : Nat) (a0 : Int32) (a1 : Int32) (S : aSt) {r : Int32} (hf : X0_isOneFigure N a0 a1 = (some r)) : aJ l g yX0_isOneFigure M_X0_isOneFigure [.int a0, .int a1] LAY S (some (.int r)) LAY S 0 0 := by
  refine aJ_of (by decide +kernel) rfl (Nat.le_of_ble_eq_true rfl) (fun h => nomatch h) ?_
  intro C hg hl hC hz hF
  subst hg; subst hl
  have hT := ok_X0_isOneFigure
  unfold X0_isOneFigure at hf
  show aX C M_X0_isOneFigure 0 0 (0, [(0, .int a0), (1, .int a1)], [], LAY, S)
  refine aRun_ok hC hT 1 (cf' := (1, [(0, .int a0), (1, .int a1)], [.int a0], LAY, S)) (by rfl) ?_
  obtain ⟨w1, ew2, hf⟩ := aBnE hf
  refine aCallS (As := [.int a0]) (rest := []) hC hT rfl k_X0_isOneFigure_36.1 _ k_X0_isOneFigure_36.2 (by rfl) (Nat.le_of_ble_eq_true rfl) (by decide) (J_X0_many C.2.2.1 C.1 N a0 S ew2) ?_
  refine aRun_ok hC hT 1 (cf' := (5, [(0, .int a0), (1, .int a1)], [.int a1, .int w1], LAY, S)) (by rfl) ?_
  obtain ⟨w3, ew4, hf⟩ := aBnE hf
  refine aCallS (As := [.int a1]) (rest := [.int w1]) hC hT rfl k_X0_isOneFigure_36.1 _ k_X0_isOneFigure_36.2 (by rfl) (Nat.le_of_ble_eq_true rfl) (by decide) (J_X0_many C.2.2.1 C.1 N a1 S ew4) ?_
  refine aCmp_eq hC hT (tgt := 13) rfl (by decide) (fun hc5 => ?_) (fun hc5 => ?_)
  · have hf := aIfT hf hc5
    refine aRun_ok hC hT 4 (cf' := (17, [(3, .int (0 : Int32)), (2, .int (0 : Int32)), (0, .int a0), (1, .int a1)], [], LAY, S)) (by rfl) ?_
    refine aLocs [2, 3, 1, 0] (lv' := [(0, .int a0), (1, .int a1), (2, .int (0 : Int32)), (3, .int (0 : Int32))]) rfl ?_
    exact X0_isOneFigure_l17_ok hC hF N a0 a1 (0 : Int32) (0 : Int32) hf
  · have hf := aIfF hf hc5
    refine aRun_ok hC hT 1 (cf' := (12, [(0, .int a0), (1, .int a1)], [.int (0 : Int32)], LAY, S)) (by rfl) ?_
    have e9 := Option.some.inj hf; subst e9
    exact aRetB hC hT hF rfl (Or.inl rfl) rfl
def X0_kindBetween (N : Nat) (a0 : Int32) (a1 : Int32) : Option (Int32) := (Option.bind (X0_isTurn N a0 a1) (fun w1 => (if w1 = (0 : Int32) then (Option.bind (X0_isOneFigure N a0 a1) (fun w4 => (if w4 = (0 : Int32) then (aLet (X0_shorter a0) (fun w7 => (if w7 = a1 then some ((2 : Int32)) else (aLet (X0_longer a0) (fun w10 => (if w10 = a1 then some ((2 : Int32)) else some (((-1) : Int32)))))))) else some ((1 : Int32))))) else some ((0 : Int32)))))
set_option maxHeartbeats 4000000 in
set_option maxRecDepth 100000 in
theorem J_X0_kindBetween (l : Launch) (g : aWg) (N : Nat) (a0 : Int32) (a1 : Int32) (S : aSt) {r : Int32} (hf : X0_kindBetween N a0 a1 = (some r)) : aJ l g yX0_kindBetween M_X0_kindBetween [.int a0, .int a1] LAY S (some (.int r)) LAY S 0 0 := by
  refine aJ_of (by decide +kernel) rfl (Nat.le_of_ble_eq_true rfl) (fun h => nomatch h) ?_
  intro C hg hl hC hz hF
  subst hg; subst hl
  have hT := ok_X0_kindBetween
  unfold X0_kindBetween at hf
  show aX C M_X0_kindBetween 0 0 (0, [(0, .int a0), (1, .int a1)], [], LAY, S)
  refine aRun_ok hC hT 2 (cf' := (2, [(0, .int a0), (1, .int a1)], [.int a1, .int a0], LAY, S)) (by rfl) ?_
  obtain ⟨w1, ew2, hf⟩ := aBnE hf
  refine aCallS (As := [.int a0, .int a1]) (rest := []) hC hT rfl k_X0_kindBetween_22.1 _ k_X0_kindBetween_22.2 (by rfl) (Nat.le_of_ble_eq_true rfl) (by decide) (J_X0_isTurn C.2.2.1 C.1 N a0 a1 S ew2) ?_
  refine aIf_eq hC hT (tgt := 10) rfl (by decide) (fun hc3 => ?_) (fun hc3 => ?_)
  · have hf := aIfT hf hc3
    refine aRun_ok hC hT 2 (cf' := (12, [(0, .int a0), (1, .int a1)], [.int a1, .int a0], LAY, S)) (by rfl) ?_
    obtain ⟨w4, ew5, hf⟩ := aBnE hf
    refine aCallS (As := [.int a0, .int a1]) (rest := []) hC hT rfl k_X0_kindBetween_26.1 _ k_X0_kindBetween_26.2 (by rfl) (Nat.le_of_ble_eq_true rfl) (by decide) (J_X0_isOneFigure C.2.2.1 C.1 N a0 a1 S ew5) ?_
    refine aIf_eq hC hT (tgt := 20) rfl (by decide) (fun hc6 => ?_) (fun hc6 => ?_)
    · have hf := aIfT hf hc6
      refine aRun_ok hC hT 1 (cf' := (21, [(0, .int a0), (1, .int a1)], [.int a0], LAY, S)) (by rfl) ?_
      obtain ⟨w7, ew8, hf⟩ := aLetE hf
      refine aCallS (As := [.int a0]) (rest := []) hC hT rfl k_X0_kindBetween_29.1 _ k_X0_kindBetween_29.2 (by rfl) (Nat.le_of_ble_eq_true rfl) (by decide) (J_X0_shorter C.2.2.1 C.1 a0 S ew8) ?_
      refine aRun_ok hC hT 1 (cf' := (25, [(0, .int a0), (1, .int a1)], [.int a1, .int w7], LAY, S)) (by rfl) ?_
      refine aCmp_eq hC hT (tgt := 36) rfl (by decide) (fun hc9 => ?_) (fun hc9 => ?_)
      · have hf := aIfT hf hc9
        refine aRun_ok hC hT 2 (cf' := (41, [(0, .int a0), (1, .int a1)], [.int (2 : Int32)], LAY, S)) (by rfl) ?_
        have e9 := Option.some.inj hf; subst e9
        exact aRetI hC hT hF rfl rfl
      · have hf := aIfF hf hc9
        refine aRun_ok hC hT 1 (cf' := (29, [(0, .int a0), (1, .int a1)], [.int a0], LAY, S)) (by rfl) ?_
        obtain ⟨w10, ew11, hf⟩ := aLetE hf
        refine aCallS (As := [.int a0]) (rest := []) hC hT rfl k_X0_kindBetween_33.1 _ k_X0_kindBetween_33.2 (by rfl) (Nat.le_of_ble_eq_true rfl) (by decide) (J_X0_longer C.2.2.1 C.1 a0 S ew11) ?_
        refine aRun_ok hC hT 1 (cf' := (33, [(0, .int a0), (1, .int a1)], [.int a1, .int w10], LAY, S)) (by rfl) ?_
        refine aCmp_ne hC hT (tgt := 40) rfl (by decide) (fun hc12 => ?_) (fun hc12 => ?_)
        · have hf := aIfF hf hc12
          refine aRun_ok hC hT 1 (cf' := (41, [(0, .int a0), (1, .int a1)], [.int ((-1) : Int32)], LAY, S)) (by rfl) ?_
          have e9 := Option.some.inj hf; subst e9
          exact aRetI hC hT hF rfl rfl
        · have hf := aIfT hf hc12
          refine aRun_ok hC hT 2 (cf' := (41, [(0, .int a0), (1, .int a1)], [.int (2 : Int32)], LAY, S)) (by rfl) ?_
          have e9 := Option.some.inj hf; subst e9
          exact aRetI hC hT hF rfl rfl
    · have hf := aIfF hf hc6
      refine aRun_ok hC hT 1 (cf' := (19, [(0, .int a0), (1, .int a1)], [.int (1 : Int32)], LAY, S)) (by rfl) ?_
      have e9 := Option.some.inj hf; subst e9
      exact aRetI hC hT hF rfl rfl
  · have hf := aIfF hf hc3
    refine aRun_ok hC hT 1 (cf' := (9, [(0, .int a0), (1, .int a1)], [.int (0 : Int32)], LAY, S)) (by rfl) ?_
    have e9 := Option.some.inj hf; subst e9
    exact aRetI hC hT hF rfl rfl
def X10_isSum (a0 : Int32) : Int32 := (if a0 < (1 : Int32) then (0 : Int32) else (if (999999 : Int32) < a0 then (0 : Int32) else (1 : Int32)))
set_option maxHeartbeats 4000000 in
set_option maxRecDepth 100000 in
theorem J_X10_isSum (l : Launch) (g : aWg) (a0 : Int32) (S : aSt) {r : Int32} (hf : X10_isSum a0 = r) : aJ l g yX10_isSum M_X10_isSum [.int a0] LAY S (some (.int r)) LAY S 0 0 := by
  refine aJ_of (by decide +kernel) rfl (Nat.le_of_ble_eq_true rfl) (fun h => nomatch h) ?_
  intro C hg hl hC hz hF
  subst hg; subst hl
  have hT := ok_X10_isSum
  unfold X10_isSum at hf
  show aX C M_X10_isSum 0 0 (0, [(0, .int a0)], [], LAY, S)
  refine aRun_ok hC hT 2 (cf' := (2, [(0, .int a0)], [.int (1 : Int32), .int a0], LAY, S)) (by rfl) ?_
  refine aCmp_lt hC hT (tgt := 15) rfl (by decide) (fun hc1 => ?_) (fun hc1 => ?_)
  · have hf := aIfT hf hc1
    refine aRun_ok hC hT 1 (cf' := (16, [(0, .int a0)], [.int (0 : Int32)], LAY, S)) (by rfl) ?_
    subst hf
    exact aRetB hC hT hF rfl (Or.inl rfl) rfl
  · have hf := aIfF hf hc1
    refine aRun_ok hC hT 2 (cf' := (8, [(0, .int a0)], [.int (999999 : Int32), .int a0], LAY, S)) (by rfl) ?_
    refine aCmp_gt hC hT (tgt := 15) rfl (by decide) (fun hc2 => ?_) (fun hc2 => ?_)
    · have hf := aIfT hf hc2
      refine aRun_ok hC hT 1 (cf' := (16, [(0, .int a0)], [.int (0 : Int32)], LAY, S)) (by rfl) ?_
      subst hf
      exact aRetB hC hT hF rfl (Or.inl rfl) rfl
    · have hf := aIfF hf hc2
      refine aRun_ok hC hT 2 (cf' := (16, [(0, .int a0)], [.int (1 : Int32)], LAY, S)) (by rfl) ?_
      subst hf
      exact aRetB hC hT hF rfl (Or.inr rfl) rfl
def X10_judge_0_b35 (N : Nat) (S : aSt) (v1 : Int32) (v2 : Int32) (v3 : Int32) : Option (Int32) := (aLet (X2_told_8 v1 (1 : Int32) S) (fun w8 => (aLet (X2_told_8 v1 (0 : Int32) S) (fun w10 => (if v2 = w10 then (if v3 = (0 : Int32) then (Option.bind (X2_hasTwinAhead_8 N v1 S) (fun w16 => (if w16 = (0 : Int32) then some (((-1) : Int32)) else some ((4 : Int32))))) else (Option.bind (X0_kindBetween N w8 v3) (fun w14 => some (w14)))) else (if v3 = w8 then some ((3 : Int32)) else some (((-1) : Int32))))))))
set_option maxHeartbeats 4000000 in
set_option maxRecDepth 100000 in
theorem X10_judge_0_b35_ok {C : aC} {N : Nat} {S : aSt} (hC : aCx C M_X10_judge) {r : Int32} (hF : aFin C (some (.int r)) LAY S 0 0) (v1 : Int32) (v2 : Int32) (v3 : Int32) (hf : X10_judge_0_b35 N S v1 v2 v3 = (some r)) : aX C M_X10_judge 0 0 (35, [(0, .ref 0), (1, .int v1), (2, .int v2), (3, .int v3)], [], LAY, S) := by
  have hT := ok_X10_judge
  unfold X10_judge_0_b35 at hf
  refine aRun_ok hC hT 4 (cf' := (41, [(0, .ref 0), (1, .int v1), (2, .int v2), (3, .int v3)], [.int (1 : Int32), .int v1, .ref 8], LAY, S)) (by rfl) ?_
  obtain ⟨w8, ew9, hf⟩ := aLetE hf
  refine aCallV (b := 8) (As := [.int v1, .int (1 : Int32)]) (rest := []) hC hT rfl k_X10_judge_103.1 _ _ k_X10_judge_103.2 (by decide) (by rfl) (by rfl) (by rfl) (Nat.le_of_ble_eq_true rfl) (by decide) (J_X2_told_8 C.2.2.1 C.1 v1 (1 : Int32) S ew9) ?_
  refine aRun_ok hC hT 6 (cf' := (53, [(4, .int w8), (0, .ref 0), (1, .int v1), (2, .int v2), (3, .int v3)], [.int (0 : Int32), .int v1, .ref 8, .int v2], LAY, S)) (by rfl) ?_
  obtain ⟨w10, ew11, hf⟩ := aLetE hf
  refine aCallV (b := 8) (As := [.int v1, .int (0 : Int32)]) (rest := [.int v2]) hC hT rfl k_X10_judge_103.1 _ _ k_X10_judge_103.2 (by decide) (by rfl) (by rfl) (by rfl) (Nat.le_of_ble_eq_true rfl) (by decide) (J_X2_told_8 C.2.2.1 C.1 v1 (0 : Int32) S ew11) ?_
  refine aCmp_eq hC hT (tgt := 71) rfl (by decide) (fun hc12 => ?_) (fun hc12 => ?_)
  · have hf := aIfT hf hc12
    refine aRun_ok hC hT 1 (cf' := (72, [(4, .int w8), (0, .ref 0), (1, .int v1), (2, .int v2), (3, .int v3)], [.int v3], LAY, S)) (by rfl) ?_
    refine aIf_ne hC hT (tgt := 92) rfl (by decide) (fun hc13 => ?_) (fun hc13 => ?_)
    · have hf := aIfF hf hc13
      refine aRun_ok hC hT 2 (cf' := (95, [(4, .int w8), (0, .ref 0), (1, .int v1), (2, .int v2), (3, .int v3)], [.int v3, .int w8], LAY, S)) (by rfl) ?_
      obtain ⟨w14, ew15, hf⟩ := aBnE hf
      refine aCallS (As := [.int w8, .int v3]) (rest := []) hC hT rfl k_X10_judge_230.1 _ k_X10_judge_230.2 (by rfl) (Nat.le_of_ble_eq_true rfl) (by decide) (J_X0_kindBetween C.2.2.1 C.1 N w8 v3 S ew15) ?_
      have e9 := Option.some.inj hf; subst e9
      exact aRetI hC hT hF rfl rfl
    · have hf := aIfT hf hc13
      refine aRun_ok hC hT 3 (cf' := (80, [(4, .int w8), (0, .ref 0), (1, .int v1), (2, .int v2), (3, .int v3)], [.int v1, .ref 8], LAY, S)) (by rfl) ?_
      obtain ⟨w16, ew17, hf⟩ := aBnE hf
      refine aCallV (b := 8) (As := [.int v1]) (rest := []) hC hT rfl k_X10_judge_227.1 _ _ k_X10_judge_227.2 (by decide) (by rfl) (by rfl) (by rfl) (Nat.le_of_ble_eq_true rfl) (by decide) (J_X2_hasTwinAhead_8 C.2.2.1 C.1 N v1 S ew17) ?_
      refine aIf_eq hC hT (tgt := 90) rfl (by decide) (fun hc18 => ?_) (fun hc18 => ?_)
      · have hf := aIfT hf hc18
        refine aRun_ok hC hT 1 (cf' := (91, [(4, .int w8), (0, .ref 0), (1, .int v1), (2, .int v2), (3, .int v3)], [.int ((-1) : Int32)], LAY, S)) (by rfl) ?_
        have e9 := Option.some.inj hf; subst e9
        exact aRetI hC hT hF rfl rfl
      · have hf := aIfF hf hc18
        refine aRun_ok hC hT 2 (cf' := (91, [(4, .int w8), (0, .ref 0), (1, .int v1), (2, .int v2), (3, .int v3)], [.int (4 : Int32)], LAY, S)) (by rfl) ?_
        have e9 := Option.some.inj hf; subst e9
        exact aRetI hC hT hF rfl rfl
  · have hf := aIfF hf hc12
    refine aRun_ok hC hT 2 (cf' := (62, [(4, .int w8), (0, .ref 0), (1, .int v1), (2, .int v2), (3, .int v3)], [.int w8, .int v3], LAY, S)) (by rfl) ?_
    refine aCmp_ne hC hT (tgt := 69) rfl (by decide) (fun hc19 => ?_) (fun hc19 => ?_)
    · have hf := aIfF hf hc19
      refine aRun_ok hC hT 1 (cf' := (70, [(4, .int w8), (0, .ref 0), (1, .int v1), (2, .int v2), (3, .int v3)], [.int ((-1) : Int32)], LAY, S)) (by rfl) ?_
      have e9 := Option.some.inj hf; subst e9
      exact aRetI hC hT hF rfl rfl
    · have hf := aIfT hf hc19
      refine aRun_ok hC hT 2 (cf' := (70, [(4, .int w8), (0, .ref 0), (1, .int v1), (2, .int v2), (3, .int v3)], [.int (3 : Int32)], LAY, S)) (by rfl) ?_
      have e9 := Option.some.inj hf; subst e9
      exact aRetI hC hT hF rfl rfl
def X10_judge_0 (N : Nat) (a1 : Int32) (a2 : Int32) (a3 : Int32) (S : aSt) : Option (Int32) := (aLet (X2_holds_8 a1 S) (fun w1 => (if w1 = (0 : Int32) then some (((-2) : Int32)) else (aLet (X10_isSide a2) (fun w4 => (if w4 = (0 : Int32) then some (((-3) : Int32)) else (if a3 = (0 : Int32) then (X10_judge_0_b35 N S a1 a2 a3) else (aLet (X10_isSum a3) (fun w20 => (if w20 = (0 : Int32) then some (((-3) : Int32)) else (X10_judge_0_b35 N S a1 a2 a3)))))))))))
set_option maxHeartbeats 4000000 in
set_option maxRecDepth 100000 in
theorem J_X10_judge_0 (l : Launch) (g : aWg) (N : Nat) (a1 : Int32) (a2 : Int32) (a3 : Int32) (S : aSt) {r : Int32} (hf : X10_judge_0 N a1 a2 a3 S = (some r)) : aJ l g yX10_judge M_X10_judge [.ref 0, .int a1, .int a2, .int a3] LAY S (some (.int r)) LAY S 0 0 := by
  refine aJ_of (by decide +kernel) rfl (Nat.le_of_ble_eq_true rfl) (fun h => nomatch h) ?_
  intro C hg hl hC hz hF
  subst hg; subst hl
  have hT := ok_X10_judge
  unfold X10_judge_0 at hf
  show aX C M_X10_judge 0 0 (0, [(0, .ref 0), (1, .int a1), (2, .int a2), (3, .int a3)], [], LAY, S)
  refine aRun_ok hC hT 3 (cf' := (5, [(0, .ref 0), (1, .int a1), (2, .int a2), (3, .int a3)], [.int a1, .ref 8], LAY, S)) (by rfl) ?_
  obtain ⟨w1, ew2, hf⟩ := aLetE hf
  refine aCallV (b := 8) (As := [.int a1]) (rest := []) hC hT rfl k_X10_judge_99.1 _ _ k_X10_judge_99.2 (by decide) (by rfl) (by rfl) (by rfl) (Nat.le_of_ble_eq_true rfl) (by decide) (J_X2_holds_8 C.2.2.1 C.1 a1 S ew2) ?_
  refine aIf_ne hC hT (tgt := 14) rfl (by decide) (fun hc3 => ?_) (fun hc3 => ?_)
  · have hf := aIfF hf hc3
    refine aRun_ok hC hT 1 (cf' := (15, [(0, .ref 0), (1, .int a1), (2, .int a2), (3, .int a3)], [.int a2], LAY, S)) (by rfl) ?_
    obtain ⟨w4, ew5, hf⟩ := aLetE hf
    refine aCallS (As := [.int a2]) (rest := []) hC hT rfl k_X10_judge_139.1 _ k_X10_judge_139.2 (by rfl) (Nat.le_of_ble_eq_true rfl) (by decide) (J_X10_isSide C.2.2.1 C.1 a2 S ew5) ?_
    refine aIf_eq hC hT (tgt := 32) rfl (by decide) (fun hc6 => ?_) (fun hc6 => ?_)
    · have hf := aIfT hf hc6
      refine aRun_ok hC hT 1 (cf' := (34, [(0, .ref 0), (1, .int a1), (2, .int a2), (3, .int a3)], [.int ((-3) : Int32)], LAY, S)) (by rfl) ?_
      have e9 := Option.some.inj hf; subst e9
      exact aRetI hC hT hF rfl rfl
    · have hf := aIfF hf hc6
      refine aRun_ok hC hT 1 (cf' := (22, [(0, .ref 0), (1, .int a1), (2, .int a2), (3, .int a3)], [.int a3], LAY, S)) (by rfl) ?_
      refine aIf_eq hC hT (tgt := 35) rfl (by decide) (fun hc7 => ?_) (fun hc7 => ?_)
      · have hf := aIfT hf hc7
        exact X10_judge_0_b35_ok hC hF a1 a2 a3 hf
      · have hf := aIfF hf hc7
        refine aRun_ok hC hT 1 (cf' := (26, [(0, .ref 0), (1, .int a1), (2, .int a2), (3, .int a3)], [.int a3], LAY, S)) (by rfl) ?_
        obtain ⟨w20, ew21, hf⟩ := aLetE hf
        refine aCallS (As := [.int a3]) (rest := []) hC hT rfl k_X10_judge_142.1 _ k_X10_judge_142.2 (by rfl) (Nat.le_of_ble_eq_true rfl) (by decide) (J_X10_isSum C.2.2.1 C.1 a3 S ew21) ?_
        refine aIf_ne hC hT (tgt := 35) rfl (by decide) (fun hc22 => ?_) (fun hc22 => ?_)
        · have hf := aIfF hf hc22
          exact X10_judge_0_b35_ok hC hF a1 a2 a3 hf
        · have hf := aIfT hf hc22
          refine aRun_ok hC hT 1 (cf' := (34, [(0, .ref 0), (1, .int a1), (2, .int a2), (3, .int a3)], [.int ((-3) : Int32)], LAY, S)) (by rfl) ?_
          have e9 := Option.some.inj hf; subst e9
          exact aRetI hC hT hF rfl rfl
  · have hf := aIfT hf hc3
    refine aRun_ok hC hT 1 (cf' := (13, [(0, .ref 0), (1, .int a1), (2, .int a2), (3, .int a3)], [.int ((-2) : Int32)], LAY, S)) (by rfl) ?_
    have e9 := Option.some.inj hf; subst e9
    exact aRetI hC hT hF rfl rfl
def X10_isHand (a0 : Int32) : Int32 := (if a0 < (0 : Int32) then (0 : Int32) else (if (4 : Int32) ≤ a0 then (0 : Int32) else (1 : Int32)))
set_option maxHeartbeats 4000000 in
set_option maxRecDepth 100000 in
theorem J_X10_isHand (l : Launch) (g : aWg) (a0 : Int32) (S : aSt) {r : Int32} (hf : X10_isHand a0 = r) : aJ l g yX10_isHand M_X10_isHand [.int a0] LAY S (some (.int r)) LAY S 0 0 := by
  refine aJ_of (by decide +kernel) rfl (Nat.le_of_ble_eq_true rfl) (fun h => nomatch h) ?_
  intro C hg hl hC hz hF
  subst hg; subst hl
  have hT := ok_X10_isHand
  unfold X10_isHand at hf
  show aX C M_X10_isHand 0 0 (0, [(0, .int a0)], [], LAY, S)
  refine aRun_ok hC hT 1 (cf' := (1, [(0, .int a0)], [.int a0], LAY, S)) (by rfl) ?_
  refine aIf_lt hC hT (tgt := 13) rfl (by decide) (fun hc1 => ?_) (fun hc1 => ?_)
  · have hf := aIfT hf hc1
    refine aRun_ok hC hT 1 (cf' := (14, [(0, .int a0)], [.int (0 : Int32)], LAY, S)) (by rfl) ?_
    subst hf
    exact aRetB hC hT hF rfl (Or.inl rfl) rfl
  · have hf := aIfF hf hc1
    refine aRun_ok hC hT 2 (cf' := (6, [(0, .int a0)], [.int (4 : Int32), .int a0], LAY, S)) (by rfl) ?_
    refine aCmp_ge hC hT (tgt := 13) rfl (by decide) (fun hc2 => ?_) (fun hc2 => ?_)
    · have hf := aIfT hf hc2
      refine aRun_ok hC hT 1 (cf' := (14, [(0, .int a0)], [.int (0 : Int32)], LAY, S)) (by rfl) ?_
      subst hf
      exact aRetB hC hT hF rfl (Or.inl rfl) rfl
    · have hf := aIfF hf hc2
      refine aRun_ok hC hT 2 (cf' := (14, [(0, .int a0)], [.int (1 : Int32)], LAY, S)) (by rfl) ?_
      subst hf
      exact aRetB hC hT hF rfl (Or.inr rfl) rfl
def X10_isEntryKind (a0 : Int32) : Int32 := (if a0 < (0 : Int32) then (0 : Int32) else (if (5 : Int32) ≤ a0 then (0 : Int32) else (1 : Int32)))
set_option maxHeartbeats 4000000 in
set_option maxRecDepth 100000 in
theorem J_X10_isEntryKind (l : Launch) (g : aWg) (a0 : Int32) (S : aSt) {r : Int32} (hf : X10_isEntryKind a0 = r) : aJ l g yX10_isEntryKind M_X10_isEntryKind [.int a0] LAY S (some (.int r)) LAY S 0 0 := by
  refine aJ_of (by decide +kernel) rfl (Nat.le_of_ble_eq_true rfl) (fun h => nomatch h) ?_
  intro C hg hl hC hz hF
  subst hg; subst hl
  have hT := ok_X10_isEntryKind
  unfold X10_isEntryKind at hf
  show aX C M_X10_isEntryKind 0 0 (0, [(0, .int a0)], [], LAY, S)
  refine aRun_ok hC hT 1 (cf' := (1, [(0, .int a0)], [.int a0], LAY, S)) (by rfl) ?_
  refine aIf_lt hC hT (tgt := 13) rfl (by decide) (fun hc1 => ?_) (fun hc1 => ?_)
  · have hf := aIfT hf hc1
    refine aRun_ok hC hT 1 (cf' := (14, [(0, .int a0)], [.int (0 : Int32)], LAY, S)) (by rfl) ?_
    subst hf
    exact aRetB hC hT hF rfl (Or.inl rfl) rfl
  · have hf := aIfF hf hc1
    refine aRun_ok hC hT 2 (cf' := (6, [(0, .int a0)], [.int (5 : Int32), .int a0], LAY, S)) (by rfl) ?_
    refine aCmp_ge hC hT (tgt := 13) rfl (by decide) (fun hc2 => ?_) (fun hc2 => ?_)
    · have hf := aIfT hf hc2
      refine aRun_ok hC hT 1 (cf' := (14, [(0, .int a0)], [.int (0 : Int32)], LAY, S)) (by rfl) ?_
      subst hf
      exact aRetB hC hT hF rfl (Or.inl rfl) rfl
    · have hf := aIfF hf hc2
      refine aRun_ok hC hT 2 (cf' := (14, [(0, .int a0)], [.int (1 : Int32)], LAY, S)) (by rfl) ?_
      subst hf
      exact aRetB hC hT hF rfl (Or.inr rfl) rfl
def J9_min_7cf53 (a0 : Int32) (a1 : Int32) : Int32 := (if a1 < a0 then a1 else a0)
set_option maxHeartbeats 4000000 in
set_option maxRecDepth 100000 in
theorem J_J9_min_7cf53 (l : Launch) (g : aWg) (a0 : Int32) (a1 : Int32) (S : aSt) {r : Int32} (hf : J9_min_7cf53 a0 a1 = r) : aJ l g yJ9_min_7cf53 M_J9_min_7cf53 [.int a0, .int a1] LAY S (some (.int r)) LAY S 0 0 := by
  refine aJ_of (by decide +kernel) rfl (Nat.le_of_ble_eq_true rfl) (fun h => nomatch h) ?_
  intro C hg hl hC hz hF
  subst hg; subst hl
  have hT := ok_J9_min_7cf53
  unfold J9_min_7cf53 at hf
  show aX C M_J9_min_7cf53 0 0 (0, [(0, .int a0), (1, .int a1)], [], LAY, S)
  refine aRun_ok hC hT 2 (cf' := (2, [(0, .int a0), (1, .int a1)], [.int a1, .int a0], LAY, S)) (by rfl) ?_
  refine aCmp_gt hC hT (tgt := 9) rfl (by decide) (fun hc1 => ?_) (fun hc1 => ?_)
  · have hf := aIfT hf hc1
    refine aRun_ok hC hT 1 (cf' := (10, [(0, .int a0), (1, .int a1)], [.int a1], LAY, S)) (by rfl) ?_
    subst hf
    exact aRetI hC hT hF rfl rfl
  · have hf := aIfF hf hc1
    refine aRun_ok hC hT 2 (cf' := (10, [(0, .int a0), (1, .int a1)], [.int a0], LAY, S)) (by rfl) ?_
    subst hf
    exact aRetI hC hT hF rfl rfl
def X10_learn_0 (a1 : Int32) (a2 : Int32) (S : aSt) : Int32 × aSt := (aLet (X10_isHand a1) (fun w1 => (if w1 = (0 : Int32) then (((-2) : Int32), S) else (aLet (X10_isEntryKind a2) (fun w4 => (if w4 = (0 : Int32) then (((-2) : Int32), S) else (aLet (X2_oddsOf_8 a1 a2 S) (fun w7 => (aLet (J9_min_7cf53 (w7 + (1 : Int32)) (99 : Int32)) (fun w9 => (aLet (X2_setOdds_8 a1 a2 w9 S) (fun w11 => (aLet (X2_oddsOf_8 a1 a2 w11) (fun w13 => (w13, w11)))))))))))))))
set_option maxHeartbeats 4000000 in
set_option maxRecDepth 100000 in
theorem J_X10_learn_0 (l : Launch) (g : aWg) (a1 : Int32) (a2 : Int32) (S : aSt) {r : Int32 × aSt} (hf : X10_learn_0 a1 a2 S = r) : aJ l g yX10_learn M_X10_learn [.ref 0, .int a1, .int a2] LAY S (some (.int r.1)) LAY r.2 0 0 := by
  refine aJ_of (by decide +kernel) rfl (Nat.le_of_ble_eq_true rfl) (fun h => nomatch h) ?_
  intro C hg hl hC hz hF
  subst hg; subst hl
  have hT := ok_X10_learn
  unfold X10_learn_0 at hf
  show aX C M_X10_learn 0 0 (0, [(0, .ref 0), (1, .int a1), (2, .int a2)], [], LAY, S)
  refine aRun_ok hC hT 1 (cf' := (1, [(0, .ref 0), (1, .int a1), (2, .int a2)], [.int a1], LAY, S)) (by rfl) ?_
  obtain ⟨w1, ew2, hf⟩ := aLetE hf
  refine aCallS (As := [.int a1]) (rest := []) hC hT rfl k_X10_learn_121.1 _ k_X10_learn_121.2 (by rfl) (Nat.le_of_ble_eq_true rfl) (by decide) (J_X10_isHand C.2.2.1 C.1 a1 S ew2) ?_
  refine aIf_eq hC hT (tgt := 14) rfl (by decide) (fun hc3 => ?_) (fun hc3 => ?_)
  · have hf := aIfT hf hc3
    refine aRun_ok hC hT 1 (cf' := (16, [(0, .ref 0), (1, .int a1), (2, .int a2)], [.int ((-2) : Int32)], LAY, S)) (by rfl) ?_
    subst hf
    exact aRetI hC hT hF rfl rfl
  · have hf := aIfF hf hc3
    refine aRun_ok hC hT 1 (cf' := (8, [(0, .ref 0), (1, .int a1), (2, .int a2)], [.int a2], LAY, S)) (by rfl) ?_
    obtain ⟨w4, ew5, hf⟩ := aLetE hf
    refine aCallS (As := [.int a2]) (rest := []) hC hT rfl k_X10_learn_124.1 _ k_X10_learn_124.2 (by rfl) (Nat.le_of_ble_eq_true rfl) (by decide) (J_X10_isEntryKind C.2.2.1 C.1 a2 S ew5) ?_
    refine aIf_ne hC hT (tgt := 17) rfl (by decide) (fun hc6 => ?_) (fun hc6 => ?_)
    · have hf := aIfF hf hc6
      refine aRun_ok hC hT 8 (cf' := (29, [(0, .ref 0), (1, .int a1), (2, .int a2)], [.int a2, .int a1, .ref 8, .int a2, .int a1, .ref 8], LAY, S)) (by rfl) ?_
      obtain ⟨w7, ew8, hf⟩ := aLetE hf
      refine aCallV (b := 8) (As := [.int a1, .int a2]) (rest := [.int a2, .int a1, .ref 8]) hC hT rfl k_X10_learn_127.1 _ _ k_X10_learn_127.2 (by decide) (by rfl) (by rfl) (by rfl) (Nat.le_of_ble_eq_true rfl) (by decide) (J_X2_oddsOf_8 C.2.2.1 C.1 a1 a2 S ew8) ?_
      refine aRun_ok hC hT 3 (cf' := (36, [(0, .ref 0), (1, .int a1), (2, .int a2)], [.int (99 : Int32), .int (w7 + (1 : Int32)), .int a2, .int a1, .ref 8], LAY, S)) (by rfl) ?_
      obtain ⟨w9, ew10, hf⟩ := aLetE hf
      refine aCallS (As := [.int (w7 + (1 : Int32)), .int (99 : Int32)]) (rest := [.int a2, .int a1, .ref 8]) hC hT rfl k_X10_learn_130.1 _ k_X10_learn_130.2 (by rfl) (Nat.le_of_ble_eq_true rfl) (by decide) (J_J9_min_7cf53 C.2.2.1 C.1 (w7 + (1 : Int32)) (99 : Int32) S ew10) ?_
      obtain ⟨w11, ew12, hf⟩ := aLetE hf
      refine aCallV (b := 8) (As := [.int a1, .int a2, .int w9]) (rest := []) hC hT rfl k_X10_learn_135.1 _ _ k_X10_learn_135.2 (by decide) (by rfl) (by rfl) (by rfl) (Nat.le_of_ble_eq_true rfl) (by decide) (J_X2_setOdds_8 C.2.2.1 C.1 a1 a2 w9 S ew12) ?_
      refine aRun_ok hC hT 4 (cf' := (48, [(0, .ref 0), (1, .int a1), (2, .int a2)], [.int a2, .int a1, .ref 8], LAY, w11)) (by rfl) ?_
      obtain ⟨w13, ew14, hf⟩ := aLetE hf
      refine aCallV (b := 8) (As := [.int a1, .int a2]) (rest := []) hC hT rfl k_X10_learn_127.1 _ _ k_X10_learn_127.2 (by decide) (by rfl) (by rfl) (by rfl) (Nat.le_of_ble_eq_true rfl) (by decide) (J_X2_oddsOf_8 C.2.2.1 C.1 a1 a2 w11 ew14) ?_
      subst hf
      exact aRetI hC hT hF rfl rfl
    · have hf := aIfT hf hc6
      refine aRun_ok hC hT 1 (cf' := (16, [(0, .ref 0), (1, .int a1), (2, .int a2)], [.int ((-2) : Int32)], LAY, S)) (by rfl) ?_
      subst hf
      exact aRetI hC hT hF rfl rfl
