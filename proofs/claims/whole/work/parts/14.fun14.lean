def X0_tens (a0 : Int32) : Int32 := (aLet (X6_at_1001 a0) (fun w1 => w1))
set_option maxHeartbeats 4000000 in
set_option maxRecDepth 100000 in
theorem J_X0_tens (l : Launch) (g : aWg) (a0 : Int32) (S : aSt) {r : Int32} (hf : X0_tens a0 = r) : aJ l g yX0_tens M_X0_tens [.int a0] LAY S (some (.int r)) LAY S 0 0 := by
  refine aJ_of (by decide +kernel) rfl (Nat.le_of_ble_eq_true rfl) (fun h => nomatch h) ?_
  intro C hg hl hC hz hF
  subst hg; subst hl
  have hT := ok_X0_tens
  unfold X0_tens at hf
  show aX C M_X0_tens 0 0 (0, [(0, .int a0)], [], LAY, S)
  refine aRun_ok hC hT 2 (cf' := (4, [(0, .int a0)], [.int a0, .ref 1001], LAY, S)) (by rfl) ?_
  obtain ⟨w1, ew2, hf⟩ := aLetE hf
  refine aCallS (As := [.ref 1001, .int a0]) (rest := []) hC hT rfl k_X0_tens_15.1 _ k_X0_tens_15.2 (by rfl) (Nat.le_of_ble_eq_true rfl) (by decide) (J_X6_at_1001 C.2.2.1 C.1 a0 S ew2) ?_
  subst hf
  exact aRetI hC hT hF rfl rfl
def X8_putCarries_14_b14 (N : Nat) (rec14 : Int32 → Int32 → aSt → Option (aSt)) (v1 : Int32) (v2 : Int32) (S : aSt) : Option (aSt) := (if (5 : Int32) < v2 then some (S) else (aLet (X0_tens v2) (fun w5 => (aLet (X8_put_14 (6 : Int32) v1 v2 (-w5) (S.1 8 2) S) (fun w7 => (aLet (X0_tens v2) (fun w9 => (aLet (X8_put_14 (6 : Int32) v1 v2 w9 (w7.1 8 2) w7) (fun w11 => (rec14 v1 (v2 + (1 : Int32)) w11))))))))))
set_option maxHeartbeats 4000000 in
set_option maxRecDepth 100000 in
theorem X8_putCarries_14_b14_ok {C : aC} {N : Nat} {rec14 : Int32 → Int32 → aSt → Option (aSt)} (hC : aCx C M_X8_putCarries) {r : aSt} (hF : aFin C none LAY r 0 0) (hrec14 : ∀ (v1 : Int32) (v2 : Int32) (S : aSt), rec14 v1 v2 S = (some r) → aX C M_X8_putCarries 0 0 (14, [(0, .ref 14), (1, .int v1), (2, .int v2)], [], LAY, S)) (v1 : Int32) (v2 : Int32) (S : aSt) (hf : X8_putCarries_14_b14 N rec14 v1 v2 S = (some r)) : aX C M_X8_putCarries 0 0 (14, [(0, .ref 14), (1, .int v1), (2, .int v2)], [], LAY, S) := by
  have hT := ok_X8_putCarries
  unfold X8_putCarries_14_b14 at hf
  refine aRun_ok hC hT 2 (cf' := (16, [(0, .ref 14), (1, .int v1), (2, .int v2)], [.int (5 : Int32), .int v2], LAY, S)) (by rfl) ?_
  refine aCmp_gt hC hT (tgt := 64) rfl (by decide) (fun hc4 => ?_) (fun hc4 => ?_)
  · have hf := aIfT hf hc4
    have e9 := Option.some.inj hf; subst e9
    exact aRetV hC hT hF rfl rfl
  · have hf := aIfF hf hc4
    refine aRun_ok hC hT 5 (cf' := (25, [(0, .ref 14), (1, .int v1), (2, .int v2)], [.int v2, .int v2, .int v1, .int (6 : Int32), .ref 14], LAY, S)) (by rfl) ?_
    obtain ⟨w5, ew6, hf⟩ := aLetE hf
    refine aCallS (As := [.int v2]) (rest := [.int v2, .int v1, .int (6 : Int32), .ref 14]) hC hT rfl k_X8_putCarries_130.1 _ k_X8_putCarries_130.2 (by rfl) (Nat.le_of_ble_eq_true rfl) (by decide) (J_X0_tens C.2.2.1 C.1 v2 S ew6) ?_
    refine aRun_ok hC hT 4 (cf' := (36, [(0, .ref 14), (1, .int v1), (2, .int v2)], [.int (S.1 8 2), .int (-w5), .int v2, .int v1, .int (6 : Int32), .ref 14], LAY, S)) (by rfl) ?_
    obtain ⟨w7, ew8, hf⟩ := aLetE hf
    refine aCallV (b := 14) (As := [.int (6 : Int32), .int v1, .int v2, .int (-w5), .int (S.1 8 2)]) (rest := []) hC hT rfl k_X8_putCarries_98.1 _ _ k_X8_putCarries_98.2 (by decide) (by rfl) (by rfl) (by rfl) (Nat.le_of_ble_eq_true rfl) (by decide) (J_X8_put_14 C.2.2.1 C.1 (6 : Int32) v1 v2 (-w5) (S.1 8 2) S ew8) ?_
    refine aRun_ok hC hT 5 (cf' := (45, [(0, .ref 14), (1, .int v1), (2, .int v2)], [.int v2, .int v2, .int v1, .int (6 : Int32), .ref 14], LAY, w7)) (by rfl) ?_
    obtain ⟨w9, ew10, hf⟩ := aLetE hf
    refine aCallS (As := [.int v2]) (rest := [.int v2, .int v1, .int (6 : Int32), .ref 14]) hC hT rfl k_X8_putCarries_130.1 _ k_X8_putCarries_130.2 (by rfl) (Nat.le_of_ble_eq_true rfl) (by decide) (J_X0_tens C.2.2.1 C.1 v2 w7 ew10) ?_
    refine aRun_ok hC hT 3 (cf' := (55, [(0, .ref 14), (1, .int v1), (2, .int v2)], [.int (w7.1 8 2), .int w9, .int v2, .int v1, .int (6 : Int32), .ref 14], LAY, w7)) (by rfl) ?_
    obtain ⟨w11, ew12, hf⟩ := aLetE hf
    refine aCallV (b := 14) (As := [.int (6 : Int32), .int v1, .int v2, .int w9, .int (w7.1 8 2)]) (rest := []) hC hT rfl k_X8_putCarries_98.1 _ _ k_X8_putCarries_98.2 (by decide) (by rfl) (by rfl) (by rfl) (Nat.le_of_ble_eq_true rfl) (by decide) (J_X8_put_14 C.2.2.1 C.1 (6 : Int32) v1 v2 w9 (w7.1 8 2) w7 ew12) ?_
    refine aRun_ok hC hT 2 (cf' := (14, [(2, .int (v2 + (1 : Int32))), (0, .ref 14), (1, .int v1)], [], LAY, w11)) (by rfl) ?_
    refine aLocs [1, 2, 0] (lv' := [(0, .ref 14), (1, .int v1), (2, .int (v2 + (1 : Int32)))]) rfl ?_
    exact hrec14 v1 (v2 + (1 : Int32)) w11 hf
def X8_putCarries_14_l14 (N : Nat) : Nat → Int32 → Int32 → aSt → Option (aSt)
  | 0 => fun _ _ _ => none
  | n + 1 => X8_putCarries_14_b14 N (X8_putCarries_14_l14 N n)
theorem X8_putCarries_14_l14_ok {C : aC} {N : Nat} (hC : aCx C M_X8_putCarries) {r : aSt} (hF : aFin C none LAY r 0 0) : ∀ (n : Nat) (v1 : Int32) (v2 : Int32) (S : aSt), X8_putCarries_14_l14 N n v1 v2 S = (some r) → aX C M_X8_putCarries 0 0 (14, [(0, .ref 14), (1, .int v1), (2, .int v2)], [], LAY, S)
  | 0, _, _, _,  h => nomatch (show (none : Option (aSt)) = some _ from h)
  | n + 1, v1, v2, S,  h => X8_putCarries_14_b14_ok hC hF (fun v1 v2 S h => X8_putCarries_14_l14_ok hC hF n v1 v2 S h) v1 v2 S h
def X8_putCarries_14 (N : Nat) (a1 : Int32) (S : aSt) : Option (aSt) := (Option.bind (X2_hasEntryOn_8 N a1 S) (fun w1 => (if w1 = (0 : Int32) then some (S) else (X8_putCarries_14_l14 N N a1 (1 : Int32) S))))
set_option maxHeartbeats 4000000 in
set_option maxRecDepth 100000 in
theorem J_X8_putCarries_14 (l : Launch) (g : aWg) (N : Nat) (a1 : Int32) (S : aSt) {r : aSt} (hf : X8_putCarries_14 N a1 S = (some r)) : aJ l g yX8_putCarries M_X8_putCarries [.ref 14, .int a1] LAY S none LAY r 0 0 := by
  refine aJ_of (by decide +kernel) rfl (Nat.le_of_ble_eq_true rfl) (fun h => nomatch h) ?_
  intro C hg hl hC hz hF
  subst hg; subst hl
  have hT := ok_X8_putCarries
  unfold X8_putCarries_14 at hf
  show aX C M_X8_putCarries 0 0 (0, [(0, .ref 14), (1, .int a1)], [], LAY, S)
  refine aRun_ok hC hT 3 (cf' := (5, [(0, .ref 14), (1, .int a1)], [.int a1, .ref 8], LAY, S)) (by rfl) ?_
  obtain ⟨w1, ew2, hf⟩ := aBnE hf
  refine aCallV (b := 8) (As := [.int a1]) (rest := []) hC hT rfl k_X8_putCarries_143.1 _ _ k_X8_putCarries_143.2 (by decide) (by rfl) (by rfl) (by rfl) (Nat.le_of_ble_eq_true rfl) (by decide) (J_X2_hasEntryOn_8 C.2.2.1 C.1 N a1 S ew2) ?_
  refine aIf_ne hC hT (tgt := 12) rfl (by decide) (fun hc3 => ?_) (fun hc3 => ?_)
  · have hf := aIfF hf hc3
    refine aRun_ok hC hT 2 (cf' := (14, [(2, .int (1 : Int32)), (0, .ref 14), (1, .int a1)], [], LAY, S)) (by rfl) ?_
    refine aLocs [1, 2, 0] (lv' := [(0, .ref 14), (1, .int a1), (2, .int (1 : Int32))]) rfl ?_
    exact X8_putCarries_14_l14_ok hC hF N a1 (1 : Int32) S hf
  · have hf := aIfT hf hc3
    have e9 := Option.some.inj hf; subst e9
    exact aRetV hC hT hF rfl rfl
def X2_hasTwinAhead_8_b54 (N : Nat) (S : aSt) (rec2 : Int32 → Int32 → Option (Int32)) (v1 : Int32) (v2 : Int32) : Option (Int32) := (rec2 v1 (v2 + (1 : Int32)))
set_option maxHeartbeats 4000000 in
set_option maxRecDepth 100000 in
theorem X2_hasTwinAhead_8_b54_ok {C : aC} {N : Nat} {S : aSt} {rec2 : Int32 → Int32 → Option (Int32)} (hC : aCx C M_X2_hasTwinAhead) {r : Int32} (hF : aFin C (some (.int r)) LAY S 0 0) (hrec2 : ∀ (v1 : Int32) (v2 : Int32), rec2 v1 v2 = (some r) → aX C M_X2_hasTwinAhead 0 0 (2, [(0, .ref 8), (1, .int v1), (2, .int v2)], [], LAY, S)) (v1 : Int32) (v2 : Int32) (hf : X2_hasTwinAhead_8_b54 N S rec2 v1 v2 = (some r)) : aX C M_X2_hasTwinAhead 0 0 (54, [(0, .ref 8), (1, .int v1), (2, .int v2)], [], LAY, S) := by
  have hT := ok_X2_hasTwinAhead
  unfold X2_hasTwinAhead_8_b54 at hf
  refine aRun_ok hC hT 2 (cf' := (2, [(2, .int (v2 + (1 : Int32))), (0, .ref 8), (1, .int v1)], [], LAY, S)) (by rfl) ?_
  refine aLocs [1, 2, 0] (lv' := [(0, .ref 8), (1, .int v1), (2, .int (v2 + (1 : Int32)))]) rfl ?_
  exact hrec2 v1 (v2 + (1 : Int32)) hf
def X2_hasTwinAhead_8_b2 (N : Nat) (S : aSt) (rec2 : Int32 → Int32 → Option (Int32)) (v1 : Int32) (v2 : Int32) : Option (Int32) := (if v1 ≤ v2 then some ((0 : Int32)) else (aLet (X2_told_8 v2 (0 : Int32) S) (fun w2 => (aLet (X2_told_8 v1 (0 : Int32) S) (fun w4 => (if w2 = w4 then (aLet (X2_told_8 v2 (1 : Int32) S) (fun w7 => (aLet (X2_told_8 v1 (1 : Int32) S) (fun w9 => (if w7 = w9 then (aLet (X2_told_8 v2 (2 : Int32) S) (fun w12 => (aLet (X2_told_8 v1 (2 : Int32) S) (fun w14 => (if w12 = w14 then some ((1 : Int32)) else (X2_hasTwinAhead_8_b54 N S rec2 v1 v2)))))) else (X2_hasTwinAhead_8_b54 N S rec2 v1 v2)))))) else (X2_hasTwinAhead_8_b54 N S rec2 v1 v2)))))))
set_option maxHeartbeats 4000000 in
set_option maxRecDepth 100000 in
theorem X2_hasTwinAhead_8_b2_ok {C : aC} {N : Nat} {S : aSt} {rec2 : Int32 → Int32 → Option (Int32)} (hC : aCx C M_X2_hasTwinAhead) {r : Int32} (hF : aFin C (some (.int r)) LAY S 0 0) (hrec2 : ∀ (v1 : Int32) (v2 : Int32), rec2 v1 v2 = (some r) → aX C M_X2_hasTwinAhead 0 0 (2, [(0, .ref 8), (1, .int v1), (2, .int v2)], [], LAY, S)) (v1 : Int32) (v2 : Int32) (hf : X2_hasTwinAhead_8_b2 N S rec2 v1 v2 = (some r)) : aX C M_X2_hasTwinAhead 0 0 (2, [(0, .ref 8), (1, .int v1), (2, .int v2)], [], LAY, S) := by
  have hT := ok_X2_hasTwinAhead
  unfold X2_hasTwinAhead_8_b2 at hf
  refine aRun_ok hC hT 2 (cf' := (4, [(0, .ref 8), (1, .int v1), (2, .int v2)], [.int v1, .int v2], LAY, S)) (by rfl) ?_
  refine aCmp_ge hC hT (tgt := 60) rfl (by decide) (fun hc1 => ?_) (fun hc1 => ?_)
  · have hf := aIfT hf hc1
    refine aRun_ok hC hT 1 (cf' := (61, [(0, .ref 8), (1, .int v1), (2, .int v2)], [.int (0 : Int32)], LAY, S)) (by rfl) ?_
    have e9 := Option.some.inj hf; subst e9
    exact aRetB hC hT hF rfl (Or.inl rfl) rfl
  · have hf := aIfF hf hc1
    refine aRun_ok hC hT 3 (cf' := (10, [(0, .ref 8), (1, .int v1), (2, .int v2)], [.int (0 : Int32), .int v2, .ref 8], LAY, S)) (by rfl) ?_
    obtain ⟨w2, ew3, hf⟩ := aLetE hf
    refine aCallV (b := 8) (As := [.int v2, .int (0 : Int32)]) (rest := []) hC hT rfl k_X2_hasTwinAhead_53.1 _ _ k_X2_hasTwinAhead_53.2 (by decide) (by rfl) (by rfl) (by rfl) (Nat.le_of_ble_eq_true rfl) (by decide) (J_X2_told_8 C.2.2.1 C.1 v2 (0 : Int32) S ew3) ?_
    refine aRun_ok hC hT 3 (cf' := (16, [(0, .ref 8), (1, .int v1), (2, .int v2)], [.int (0 : Int32), .int v1, .ref 8, .int w2], LAY, S)) (by rfl) ?_
    obtain ⟨w4, ew5, hf⟩ := aLetE hf
    refine aCallV (b := 8) (As := [.int v1, .int (0 : Int32)]) (rest := [.int w2]) hC hT rfl k_X2_hasTwinAhead_53.1 _ _ k_X2_hasTwinAhead_53.2 (by decide) (by rfl) (by rfl) (by rfl) (Nat.le_of_ble_eq_true rfl) (by decide) (J_X2_told_8 C.2.2.1 C.1 v1 (0 : Int32) S ew5) ?_
    refine aCmp_ne hC hT (tgt := 54) rfl (by decide) (fun hc6 => ?_) (fun hc6 => ?_)
    · have hf := aIfF hf hc6
      exact X2_hasTwinAhead_8_b54_ok hC hF hrec2 v1 v2 hf
    · have hf := aIfT hf hc6
      refine aRun_ok hC hT 3 (cf' := (25, [(0, .ref 8), (1, .int v1), (2, .int v2)], [.int (1 : Int32), .int v2, .ref 8], LAY, S)) (by rfl) ?_
      obtain ⟨w7, ew8, hf⟩ := aLetE hf
      refine aCallV (b := 8) (As := [.int v2, .int (1 : Int32)]) (rest := []) hC hT rfl k_X2_hasTwinAhead_53.1 _ _ k_X2_hasTwinAhead_53.2 (by decide) (by rfl) (by rfl) (by rfl) (Nat.le_of_ble_eq_true rfl) (by decide) (J_X2_told_8 C.2.2.1 C.1 v2 (1 : Int32) S ew8) ?_
      refine aRun_ok hC hT 3 (cf' := (31, [(0, .ref 8), (1, .int v1), (2, .int v2)], [.int (1 : Int32), .int v1, .ref 8, .int w7], LAY, S)) (by rfl) ?_
      obtain ⟨w9, ew10, hf⟩ := aLetE hf
      refine aCallV (b := 8) (As := [.int v1, .int (1 : Int32)]) (rest := [.int w7]) hC hT rfl k_X2_hasTwinAhead_53.1 _ _ k_X2_hasTwinAhead_53.2 (by decide) (by rfl) (by rfl) (by rfl) (Nat.le_of_ble_eq_true rfl) (by decide) (J_X2_told_8 C.2.2.1 C.1 v1 (1 : Int32) S ew10) ?_
      refine aCmp_ne hC hT (tgt := 54) rfl (by decide) (fun hc11 => ?_) (fun hc11 => ?_)
      · have hf := aIfF hf hc11
        exact X2_hasTwinAhead_8_b54_ok hC hF hrec2 v1 v2 hf
      · have hf := aIfT hf hc11
        refine aRun_ok hC hT 3 (cf' := (40, [(0, .ref 8), (1, .int v1), (2, .int v2)], [.int (2 : Int32), .int v2, .ref 8], LAY, S)) (by rfl) ?_
        obtain ⟨w12, ew13, hf⟩ := aLetE hf
        refine aCallV (b := 8) (As := [.int v2, .int (2 : Int32)]) (rest := []) hC hT rfl k_X2_hasTwinAhead_53.1 _ _ k_X2_hasTwinAhead_53.2 (by decide) (by rfl) (by rfl) (by rfl) (Nat.le_of_ble_eq_true rfl) (by decide) (J_X2_told_8 C.2.2.1 C.1 v2 (2 : Int32) S ew13) ?_
        refine aRun_ok hC hT 3 (cf' := (46, [(0, .ref 8), (1, .int v1), (2, .int v2)], [.int (2 : Int32), .int v1, .ref 8, .int w12], LAY, S)) (by rfl) ?_
        obtain ⟨w14, ew15, hf⟩ := aLetE hf
        refine aCallV (b := 8) (As := [.int v1, .int (2 : Int32)]) (rest := [.int w12]) hC hT rfl k_X2_hasTwinAhead_53.1 _ _ k_X2_hasTwinAhead_53.2 (by decide) (by rfl) (by rfl) (by rfl) (Nat.le_of_ble_eq_true rfl) (by decide) (J_X2_told_8 C.2.2.1 C.1 v1 (2 : Int32) S ew15) ?_
        refine aCmp_ne hC hT (tgt := 54) rfl (by decide) (fun hc16 => ?_) (fun hc16 => ?_)
        · have hf := aIfF hf hc16
          exact X2_hasTwinAhead_8_b54_ok hC hF hrec2 v1 v2 hf
        · have hf := aIfT hf hc16
          refine aRun_ok hC hT 1 (cf' := (53, [(0, .ref 8), (1, .int v1), (2, .int v2)], [.int (1 : Int32)], LAY, S)) (by rfl) ?_
          have e9 := Option.some.inj hf; subst e9
          exact aRetB hC hT hF rfl (Or.inr rfl) rfl
def X2_hasTwinAhead_8_l2 (N : Nat) (S : aSt) : Nat → Int32 → Int32 → Option (Int32)
  | 0 => fun _ _ => none
  | n + 1 => X2_hasTwinAhead_8_b2 N S (X2_hasTwinAhead_8_l2 N S n)
theorem X2_hasTwinAhead_8_l2_ok {C : aC} {N : Nat} {S : aSt} (hC : aCx C M_X2_hasTwinAhead) {r : Int32} (hF : aFin C (some (.int r)) LAY S 0 0) : ∀ (n : Nat) (v1 : Int32) (v2 : Int32), X2_hasTwinAhead_8_l2 N S n v1 v2 = (some r) → aX C M_X2_hasTwinAhead 0 0 (2, [(0, .ref 8), (1, .int v1), (2, .int v2)], [], LAY, S)
  | 0, _, _,  h => nomatch (show (none : Option (Int32)) = some _ from h)
  | n + 1, v1, v2,  h => X2_hasTwinAhead_8_b2_ok hC hF (fun v1 v2 h => X2_hasTwinAhead_8_l2_ok hC hF n v1 v2 h) v1 v2 h
def X2_hasTwinAhead_8 (N : Nat) (a1 : Int32) (S : aSt) : Option (Int32) := (X2_hasTwinAhead_8_l2 N S N a1 (0 : Int32))
set_option maxHeartbeats 4000000 in
set_option maxRecDepth 100000 in
theorem J_X2_hasTwinAhead_8 (l : Launch) (g : aWg) (N : Nat) (a1 : Int32) (S : aSt) {r : Int32} (hf : X2_hasTwinAhead_8 N a1 S = (some r)) : aJ l g yX2_hasTwinAhead M_X2_hasTwinAhead [.ref 8, .int a1] LAY S (some (.int r)) LAY S 0 0 := by
  refine aJ_of (by decide +kernel) rfl (Nat.le_of_ble_eq_true rfl) (fun h => nomatch h) ?_
  intro C hg hl hC hz hF
  subst hg; subst hl
  have hT := ok_X2_hasTwinAhead
  unfold X2_hasTwinAhead_8 at hf
  show aX C M_X2_hasTwinAhead 0 0 (0, [(0, .ref 8), (1, .int a1)], [], LAY, S)
  refine aRun_ok hC hT 2 (cf' := (2, [(2, .int (0 : Int32)), (0, .ref 8), (1, .int a1)], [], LAY, S)) (by rfl) ?_
  refine aLocs [1, 2, 0] (lv' := [(0, .ref 8), (1, .int a1), (2, .int (0 : Int32))]) rfl ?_
  exact X2_hasTwinAhead_8_l2_ok hC hF N a1 (0 : Int32) hf
def X6_at_10 (a1 : Int32) (S : aSt) : Int32 := (if a1 < (0 : Int32) then (0 : Int32) else (if (20 : Int32) ≤ a1 then (0 : Int32) else ((S.2.2 10) a1.toNatClampNeg)))
set_option maxHeartbeats 4000000 in
set_option maxRecDepth 100000 in
theorem J_X6_at_10 (l : Launch) (g : aWg) (a1 : Int32) (S : aSt) {r : Int32} (hf : X6_at_10 a1 S = r) : aJ l g yX6_at M_X6_at [.ref 10, .int a1] LAY S (some (.int r)) LAY S 0 0 := by
  refine aJ_of (by decide +kernel) rfl (Nat.le_of_ble_eq_true rfl) (fun h => nomatch h) ?_
  intro C hg hl hC hz hF
  subst hg; subst hl
  have hT := ok_X6_at
  unfold X6_at_10 at hf
  show aX C M_X6_at 0 0 (0, [(0, .ref 10), (1, .int a1)], [], LAY, S)
  refine aRun_ok hC hT 1 (cf' := (1, [(0, .ref 10), (1, .int a1)], [.int a1], LAY, S)) (by rfl) ?_
  refine aIf_lt hC hT (tgt := 16) rfl (by decide) (fun hc1 => ?_) (fun hc1 => ?_)
  · have hf := aIfT hf hc1
    refine aRun_ok hC hT 1 (cf' := (17, [(0, .ref 10), (1, .int a1)], [.int (0 : Int32)], LAY, S)) (by rfl) ?_
    subst hf
    exact aRetI hC hT hF rfl rfl
  · have hf := aIfF hf hc1
    refine aRun_ok hC hT 3 (cf' := (7, [(0, .ref 10), (1, .int a1)], [.int (20 : Int32), .int a1], LAY, S)) (by rfl) ?_
    refine aCmp_ge hC hT (tgt := 16) rfl (by decide) (fun hc2 => ?_) (fun hc2 => ?_)
    · have hf := aIfT hf hc2
      refine aRun_ok hC hT 1 (cf' := (17, [(0, .ref 10), (1, .int a1)], [.int (0 : Int32)], LAY, S)) (by rfl) ?_
      subst hf
      exact aRetI hC hT hF rfl rfl
    · have hf := aIfF hf hc2
      refine aRun_ok hC hT 2 (cf' := (12, [(0, .ref 10), (1, .int a1)], [.int a1, .ref 10], LAY, S)) (by rfl) ?_
      refine aIald hC hT rfl (by decide) (by rfl) (aIx_of hc1 hc2 (by decide)) ?_
      refine aRun_ok hC hT 1 (cf' := (17, [(0, .ref 10), (1, .int a1)], [.int ((S.2.2 10) a1.toNatClampNeg)], LAY, S)) (by rfl) ?_
      subst hf
      exact aRetI hC hT hF rfl rfl
def X2_oddsOf_8 (a1 : Int32) (a2 : Int32) (S : aSt) : Int32 := (aLet (X6_at_10 ((a1 * (5 : Int32)) + a2) S) (fun w1 => w1))
set_option maxHeartbeats 4000000 in
set_option maxRecDepth 100000 in
theorem J_X2_oddsOf_8 (l : Launch) (g : aWg) (a1 : Int32) (a2 : Int32) (S : aSt) {r : Int32} (hf : X2_oddsOf_8 a1 a2 S = r) : aJ l g yX2_oddsOf M_X2_oddsOf [.ref 8, .int a1, .int a2] LAY S (some (.int r)) LAY S 0 0 := by
  refine aJ_of (by decide +kernel) rfl (Nat.le_of_ble_eq_true rfl) (fun h => nomatch h) ?_
  intro C hg hl hC hz hF
  subst hg; subst hl
  have hT := ok_X2_oddsOf
  unfold X2_oddsOf_8 at hf
  show aX C M_X2_oddsOf 0 0 (0, [(0, .ref 8), (1, .int a1), (2, .int a2)], [], LAY, S)
  refine aRun_ok hC hT 7 (cf' := (9, [(0, .ref 8), (1, .int a1), (2, .int a2)], [.int ((a1 * (5 : Int32)) + a2), .ref 10], LAY, S)) (by rfl) ?_
  obtain ⟨w1, ew2, hf⟩ := aLetE hf
  refine aCallS (As := [.ref 10, .int ((a1 * (5 : Int32)) + a2)]) (rest := []) hC hT rfl k_X2_oddsOf_61.1 _ k_X2_oddsOf_61.2 (by rfl) (Nat.le_of_ble_eq_true rfl) (by decide) (J_X6_at_10 C.2.2.1 C.1 ((a1 * (5 : Int32)) + a2) S ew2) ?_
  subst hf
  exact aRetI hC hT hF rfl rfl
def X8_oddsAt_14 (a1 : Int32) (a2 : Int32) (S : aSt) : Int32 := (aLet (X2_told_8 a1 (3 : Int32) S) (fun w1 => (aLet (X2_oddsOf_8 w1 a2 S) (fun w3 => w3))))
set_option maxHeartbeats 4000000 in
set_option maxRecDepth 100000 in
theorem J_X8_oddsAt_14 (l : Launch) (g : aWg) (a1 : Int32) (a2 : Int32) (S : aSt) {r : Int32} (hf : X8_oddsAt_14 a1 a2 S = r) : aJ l g yX8_oddsAt M_X8_oddsAt [.ref 14, .int a1, .int a2] LAY S (some (.int r)) LAY S 0 0 := by
  refine aJ_of (by decide +kernel) rfl (Nat.le_of_ble_eq_true rfl) (fun h => nomatch h) ?_
  intro C hg hl hC hz hF
  subst hg; subst hl
  have hT := ok_X8_oddsAt
  unfold X8_oddsAt_14 at hf
  show aX C M_X8_oddsAt 0 0 (0, [(0, .ref 14), (1, .int a1), (2, .int a2)], [], LAY, S)
  refine aRun_ok hC hT 6 (cf' := (10, [(0, .ref 14), (1, .int a1), (2, .int a2)], [.int (3 : Int32), .int a1, .ref 8, .ref 8], LAY, S)) (by rfl) ?_
  obtain ⟨w1, ew2, hf⟩ := aLetE hf
  refine aCallV (b := 8) (As := [.int a1, .int (3 : Int32)]) (rest := [.ref 8]) hC hT rfl k_X8_oddsAt_57.1 _ _ k_X8_oddsAt_57.2 (by decide) (by rfl) (by rfl) (by rfl) (Nat.le_of_ble_eq_true rfl) (by decide) (J_X2_told_8 C.2.2.1 C.1 a1 (3 : Int32) S ew2) ?_
  refine aRun_ok hC hT 1 (cf' := (14, [(0, .ref 14), (1, .int a1), (2, .int a2)], [.int a2, .int w1, .ref 8], LAY, S)) (by rfl) ?_
  obtain ⟨w3, ew4, hf⟩ := aLetE hf
  refine aCallV (b := 8) (As := [.int w1, .int a2]) (rest := []) hC hT rfl k_X8_oddsAt_119.1 _ _ k_X8_oddsAt_119.2 (by decide) (by rfl) (by rfl) (by rfl) (Nat.le_of_ble_eq_true rfl) (by decide) (J_X2_oddsOf_8 C.2.2.1 C.1 w1 a2 S ew4) ?_
  subst hf
  exact aRetI hC hT hF rfl rfl
def X0_shorter (a0 : Int32) : Int32 := (if (a0 - a0 / (10 : Int32) * (10 : Int32)) = (0 : Int32) then (a0 / (10 : Int32)) else (0 : Int32))
set_option maxHeartbeats 4000000 in
set_option maxRecDepth 100000 in
theorem J_X0_shorter (l : Launch) (g : aWg) (a0 : Int32) (S : aSt) {r : Int32} (hf : X0_shorter a0 = r) : aJ l g yX0_shorter M_X0_shorter [.int a0] LAY S (some (.int r)) LAY S 0 0 := by
  refine aJ_of (by decide +kernel) rfl (Nat.le_of_ble_eq_true rfl) (fun h => nomatch h) ?_
  intro C hg hl hC hz hF
  subst hg; subst hl
  have hT := ok_X0_shorter
  unfold X0_shorter at hf
  show aX C M_X0_shorter 0 0 (0, [(0, .int a0)], [], LAY, S)
  refine aRun_ok hC hT 3 (cf' := (4, [(0, .int a0)], [.int (a0 - a0 / (10 : Int32) * (10 : Int32))], LAY, S)) (by rfl) ?_
  refine aIf_ne hC hT (tgt := 14) rfl (by decide) (fun hc1 => ?_) (fun hc1 => ?_)
  · have hf := aIfF hf hc1
    refine aRun_ok hC hT 1 (cf' := (15, [(0, .int a0)], [.int (0 : Int32)], LAY, S)) (by rfl) ?_
    subst hf
    exact aRetI hC hT hF rfl rfl
  · have hf := aIfT hf hc1
    refine aRun_ok hC hT 4 (cf' := (15, [(0, .int a0)], [.int (a0 / (10 : Int32))], LAY, S)) (by rfl) ?_
    subst hf
    exact aRetI hC hT hF rfl rfl
def X8_putSum_14_b42 (v4 : Int32) (s0 : Int32) (s1 : Int32) (s2 : Int32) (s3 : Int32) (S : aSt) : aSt := (aLet (X8_put_14 s3 s2 s1 s0 v4 S) (fun w7 => w7))
set_option maxHeartbeats 4000000 in
set_option maxRecDepth 100000 in
theorem X8_putSum_14_b42_ok {C : aC} (hC : aCx C M_X8_putSum) {r : aSt} (hF : aFin C none LAY r 0 0) (v4 : Int32) (s0 : Int32) (s1 : Int32) (s2 : Int32) (s3 : Int32) (S : aSt) (hf : X8_putSum_14_b42 v4 s0 s1 s2 s3 S = r) : aX C M_X8_putSum 0 0 (42, [(4, .int v4)], [.int s0, .int s1, .int s2, .int s3, .ref 14], LAY, S) := by
  have hT := ok_X8_putSum
  unfold X8_putSum_14_b42 at hf
  refine aRun_ok hC hT 1 (cf' := (44, [(4, .int v4)], [.int v4, .int s0, .int s1, .int s2, .int s3, .ref 14], LAY, S)) (by rfl) ?_
  obtain ⟨w7, ew8, hf⟩ := aLetE hf
  refine aCallV (b := 14) (As := [.int s3, .int s2, .int s1, .int s0, .int v4]) (rest := []) hC hT rfl k_X8_putSum_98.1 _ _ k_X8_putSum_98.2 (by decide) (by rfl) (by rfl) (by rfl) (Nat.le_of_ble_eq_true rfl) (by decide) (J_X8_put_14 C.2.2.1 C.1 s3 s2 s1 s0 v4 S ew8) ?_
  subst hf
  exact aRetV hC hT hF rfl rfl
def X8_putSum_14 (a1 : Int32) (a2 : Int32) (a3 : Int32) (a4 : Int32) (S : aSt) : aSt := (if a3 = (0 : Int32) then S else (aLet (X2_told_8 a2 (1 : Int32) S) (fun w2 => (aLet (X2_told_8 a2 (0 : Int32) S) (fun w4 => (if w4 = (0 : Int32) then (X8_putSum_14_b42 a4 (a3 - w2) a3 a2 a1 S) else (X8_putSum_14_b42 a4 (-(a3 - w2)) a3 a2 a1 S)))))))
set_option maxHeartbeats 4000000 in
set_option maxRecDepth 100000 in
theorem J_X8_putSum_14 (l : Launch) (g : aWg) (a1 : Int32) (a2 : Int32) (a3 : Int32) (a4 : Int32) (S : aSt) {r : aSt} (hf : X8_putSum_14 a1 a2 a3 a4 S = r) : aJ l g yX8_putSum M_X8_putSum [.ref 14, .int a1, .int a2, .int a3, .int a4] LAY S none LAY r 0 0 := by
  refine aJ_of (by decide +kernel) rfl (Nat.le_of_ble_eq_true rfl) (fun h => nomatch h) ?_
  intro C hg hl hC hz hF
  subst hg; subst hl
  have hT := ok_X8_putSum
  unfold X8_putSum_14 at hf
  show aX C M_X8_putSum 0 0 (0, [(0, .ref 14), (1, .int a1), (2, .int a2), (3, .int a3), (4, .int a4)], [], LAY, S)
  refine aRun_ok hC hT 1 (cf' := (1, [(0, .ref 14), (1, .int a1), (2, .int a2), (3, .int a3), (4, .int a4)], [.int a3], LAY, S)) (by rfl) ?_
  refine aIf_ne hC hT (tgt := 5) rfl (by decide) (fun hc1 => ?_) (fun hc1 => ?_)
  · have hf := aIfF hf hc1
    refine aRun_ok hC hT 5 (cf' := (12, [(0, .ref 14), (1, .int a1), (2, .int a2), (3, .int a3), (4, .int a4)], [.int (1 : Int32), .int a2, .ref 8, .int a3], LAY, S)) (by rfl) ?_
    obtain ⟨w2, ew3, hf⟩ := aLetE hf
    refine aCallV (b := 8) (As := [.int a2, .int (1 : Int32)]) (rest := [.int a3]) hC hT rfl k_X8_putSum_57.1 _ _ k_X8_putSum_57.2 (by decide) (by rfl) (by rfl) (by rfl) (Nat.le_of_ble_eq_true rfl) (by decide) (J_X2_told_8 C.2.2.1 C.1 a2 (1 : Int32) S ew3) ?_
    refine aRun_ok hC hT 10 (cf' := (28, [(5, .int (a3 - w2)), (0, .ref 14), (1, .int a1), (2, .int a2), (3, .int a3), (4, .int a4)], [.int (0 : Int32), .int a2, .ref 8, .int a3, .int a2, .int a1, .ref 14], LAY, S)) (by rfl) ?_
    obtain ⟨w4, ew5, hf⟩ := aLetE hf
    refine aCallV (b := 8) (As := [.int a2, .int (0 : Int32)]) (rest := [.int a3, .int a2, .int a1, .ref 14]) hC hT rfl k_X8_putSum_57.1 _ _ k_X8_putSum_57.2 (by decide) (by rfl) (by rfl) (by rfl) (Nat.le_of_ble_eq_true rfl) (by decide) (J_X2_told_8 C.2.2.1 C.1 a2 (0 : Int32) S ew5) ?_
    refine aIf_ne hC hT (tgt := 39) rfl (by decide) (fun hc6 => ?_) (fun hc6 => ?_)
    · have hf := aIfF hf hc6
      refine aRun_ok hC hT 2 (cf' := (42, [(5, .int (a3 - w2)), (0, .ref 14), (1, .int a1), (2, .int a2), (3, .int a3), (4, .int a4)], [.int (-(a3 - w2)), .int a3, .int a2, .int a1, .ref 14], LAY, S)) (by rfl) ?_
      refine aLocs [5] (lv' := [(4, .int a4)]) rfl ?_
      exact X8_putSum_14_b42_ok hC hF a4 (-(a3 - w2)) a3 a2 a1 S hf
    · have hf := aIfT hf hc6
      refine aRun_ok hC hT 2 (cf' := (42, [(5, .int (a3 - w2)), (0, .ref 14), (1, .int a1), (2, .int a2), (3, .int a3), (4, .int a4)], [.int (a3 - w2), .int a3, .int a2, .int a1, .ref 14], LAY, S)) (by rfl) ?_
      refine aLocs [5] (lv' := [(4, .int a4)]) rfl ?_
      exact X8_putSum_14_b42_ok hC hF a4 (a3 - w2) a3 a2 a1 S hf
  · have hf := aIfT hf hc1
    subst hf
    exact aRetV hC hT hF rfl rfl
def X0_longer (a0 : Int32) : Int32 := (if (99999 : Int32) < a0 then (0 : Int32) else (a0 * (10 : Int32)))
set_option maxHeartbeats 4000000 in
set_option maxRecDepth 100000 in
theorem J_X0_longer (l : Launch) (g : aWg) (a0 : Int32) (S : aSt) {r : Int32} (hf : X0_longer a0 = r) : aJ l g yX0_longer M_X0_longer [.int a0] LAY S (some (.int r)) LAY S 0 0 := by
  refine aJ_of (by decide +kernel) rfl (Nat.le_of_ble_eq_true rfl) (fun h => nomatch h) ?_
  intro C hg hl hC hz hF
  subst hg; subst hl
  have hT := ok_X0_longer
  unfold X0_longer at hf
  show aX C M_X0_longer 0 0 (0, [(0, .int a0)], [], LAY, S)
  refine aRun_ok hC hT 2 (cf' := (3, [(0, .int a0)], [.int (99999 : Int32), .int a0], LAY, S)) (by rfl) ?_
  refine aCmp_gt hC hT (tgt := 13) rfl (by decide) (fun hc1 => ?_) (fun hc1 => ?_)
  · have hf := aIfT hf hc1
    refine aRun_ok hC hT 1 (cf' := (14, [(0, .int a0)], [.int (0 : Int32)], LAY, S)) (by rfl) ?_
    subst hf
    exact aRetI hC hT hF rfl rfl
  · have hf := aIfF hf hc1
    refine aRun_ok hC hT 4 (cf' := (14, [(0, .int a0)], [.int (a0 * (10 : Int32))], LAY, S)) (by rfl) ?_
    subst hf
    exact aRetI hC hT hF rfl rfl
def X0_many_b2 (N : Nat) (rec2 : Int32 → Int32 → Option (Int32)) (v0 : Int32) (v1 : Int32) : Option (Int32) := (if (6 : Int32) ≤ v1 then some (v1) else (aLet (X6_at_1001 v1) (fun w2 => (if v0 < w2 then some (v1) else (rec2 v0 (v1 + (1 : Int32)))))))
set_option maxHeartbeats 4000000 in
set_option maxRecDepth 100000 in
theorem X0_many_b2_ok {C : aC} {N : Nat} {S : aSt} {rec2 : Int32 → Int32 → Option (Int32)} (hC : aCx C M_X0_many) {r : Int32} (hF : aFin C (some (.int r)) LAY S 0 0) (hrec2 : ∀ (v0 : Int32) (v1 : Int32), rec2 v0 v1 = (some r) → aX C M_X0_many 0 0 (2, [(0, .int v0), (1, .int v1)], [], LAY, S)) (v0 : Int32) (v1 : Int32) (hf : X0_many_b2 N rec2 v0 v1 = (some r)) : aX C M_X0_many 0 0 (2, [(0, .int v0), (1, .int v1)], [], LAY, S) := by
  have hT := ok_X0_many
  unfold X0_many_b2 at hf
  refine aRun_ok hC hT 2 (cf' := (5, [(0, .int v0), (1, .int v1)], [.int (6 : Int32), .int v1], LAY, S)) (by rfl) ?_
  refine aCmp_ge hC hT (tgt := 25) rfl (by decide) (fun hc1 => ?_) (fun hc1 => ?_)
  · have hf := aIfT hf hc1
    refine aRun_ok hC hT 1 (cf' := (26, [(0, .int v0), (1, .int v1)], [.int v1], LAY, S)) (by rfl) ?_
    have e9 := Option.some.inj hf; subst e9
    exact aRetI hC hT hF rfl rfl
  · have hf := aIfF hf hc1
    refine aRun_ok hC hT 3 (cf' := (13, [(0, .int v0), (1, .int v1)], [.int v1, .ref 1001, .int v0], LAY, S)) (by rfl) ?_
    obtain ⟨w2, ew3, hf⟩ := aLetE hf
    refine aCallS (As := [.ref 1001, .int v1]) (rest := [.int v0]) hC hT rfl k_X0_many_15.1 _ k_X0_many_15.2 (by rfl) (Nat.le_of_ble_eq_true rfl) (by decide) (J_X6_at_1001 C.2.2.1 C.1 v1 S ew3) ?_
    refine aCmp_lt hC hT (tgt := 25) rfl (by decide) (fun hc4 => ?_) (fun hc4 => ?_)
    · have hf := aIfT hf hc4
      refine aRun_ok hC hT 1 (cf' := (26, [(0, .int v0), (1, .int v1)], [.int v1], LAY, S)) (by rfl) ?_
      have e9 := Option.some.inj hf; subst e9
      exact aRetI hC hT hF rfl rfl
    · have hf := aIfF hf hc4
      refine aRun_ok hC hT 2 (cf' := (2, [(1, .int (v1 + (1 : Int32))), (0, .int v0)], [], LAY, S)) (by rfl) ?_
      refine aLocs [1, 0] (lv' := [(0, .int v0), (1, .int (v1 + (1 : Int32)))]) rfl ?_
      exact hrec2 v0 (v1 + (1 : Int32)) hf
def X0_many_l2 (N : Nat) : Nat → Int32 → Int32 → Option (Int32)
  | 0 => fun _ _ => none
  | n + 1 => X0_many_b2 N (X0_many_l2 N n)
theorem X0_many_l2_ok {C : aC} {N : Nat} {S : aSt} (hC : aCx C M_X0_many) {r : Int32} (hF : aFin C (some (.int r)) LAY S 0 0) : ∀ (n : Nat) (v0 : Int32) (v1 : Int32), X0_many_l2 N n v0 v1 = (some r) → aX C M_X0_many 0 0 (2, [(0, .int v0), (1, .int v1)], [], LAY, S)
  | 0, _, _,  h => nomatch (show (none : Option (Int32)) = some _ from h)
  | n + 1, v0, v1,  h => X0_many_b2_ok hC hF (fun v0 v1 h => X0_many_l2_ok hC hF n v0 v1 h) v0 v1 h
def X0_many (N : Nat) (a0 : Int32) : Option (Int32) := (X0_many_l2 N N a0 (1 : Int32))
set_option maxHeartbeats 4000000 in
set_option maxRecDepth 100000 in
theorem J_X0_many (l : Launch) (g : aWg) (N : Nat) (a0 : Int32) (S : aSt) {r : Int32} (hf : X0_many N a0 = (some r)) : aJ l g yX0_many M_X0_many [.int a0] LAY S (some (.int r)) LAY S 0 0 := by
  refine aJ_of (by decide +kernel) rfl (Nat.le_of_ble_eq_true rfl) (fun h => nomatch h) ?_
  intro C hg hl hC hz hF
  subst hg; subst hl
  have hT := ok_X0_many
  unfold X0_many at hf
  show aX C M_X0_many 0 0 (0, [(0, .int a0)], [], LAY, S)
  refine aRun_ok hC hT 2 (cf' := (2, [(1, .int (1 : Int32)), (0, .int a0)], [], LAY, S)) (by rfl) ?_
  refine aLocs [1, 0] (lv' := [(0, .int a0), (1, .int (1 : Int32))]) rfl ?_
  exact X0_many_l2_ok hC hF N a0 (1 : Int32) hf
def X0_at (N : Nat) (a0 : Int32) (a1 : Int32) : Option (Int32) := (aLet (X6_at_1001 a1) (fun w1 => (if w1 ≤ (0 : Int32) then some ((0 : Int32)) else (if ¬ w1 = (0 : Int32) then some (((a0 / w1) - (a0 / w1) / (10 : Int32) * (10 : Int32))) else none))))
set_option maxHeartbeats 4000000 in
set_option maxRecDepth 100000 in
theorem J_X0_at (l : Launch) (g : aWg) (N : Nat) (a0 : Int32) (a1 : Int32) (S : aSt) {r : Int32} (hf : X0_at N a0 a1 = (some r)) : aJ l g yX0_at M_X0_at [.int a0, .int a1] LAY S (some (.int r)) LAY S 0 0 := by
  refine aJ_of (by decide +kernel) rfl (Nat.le_of_ble_eq_true rfl) (fun h => nomatch h) ?_
  intro C hg hl hC hz hF
  subst hg; subst hl
  have hT := ok_X0_at
  unfold X0_at at hf
  show aX C M_X0_at 0 0 (0, [(0, .int a0), (1, .int a1)], [], LAY, S)
  refine aRun_ok hC hT 2 (cf' := (4, [(0, .int a0), (1, .int a1)], [.int a1, .ref 1001], LAY, S)) (by rfl) ?_
  obtain ⟨w1, ew2, hf⟩ := aLetE hf
  refine aCallS (As := [.ref 1001, .int a1]) (rest := []) hC hT rfl k_X0_at_15.1 _ k_X0_at_15.2 (by rfl) (Nat.le_of_ble_eq_true rfl) (by decide) (J_X6_at_1001 C.2.2.1 C.1 a1 S ew2) ?_
  refine aRun_ok hC hT 2 (cf' := (9, [(2, .int w1), (0, .int a0), (1, .int a1)], [.int w1], LAY, S)) (by rfl) ?_
  refine aIf_le hC hT (tgt := 21) rfl (by decide) (fun hc3 => ?_) (fun hc3 => ?_)
  · have hf := aIfT hf hc3
    refine aRun_ok hC hT 1 (cf' := (22, [(2, .int w1), (0, .int a0), (1, .int a1)], [.int (0 : Int32)], LAY, S)) (by rfl) ?_
    have e9 := Option.some.inj hf; subst e9
    exact aRetI hC hT hF rfl rfl
  · have hf := aIfF hf hc3
    refine aRun_ok hC hT 2 (cf' := (14, [(2, .int w1), (0, .int a0), (1, .int a1)], [.int w1, .int a0], LAY, S)) (by rfl) ?_
    obtain ⟨hy4, hf⟩ := aGdE hf
    refine aIdiv hC hT rfl hy4 ?_
    refine aRun_ok hC hT 3 (cf' := (22, [(2, .int w1), (0, .int a0), (1, .int a1)], [.int ((a0 / w1) - (a0 / w1) / (10 : Int32) * (10 : Int32))], LAY, S)) (by rfl) ?_
    have e9 := Option.some.inj hf; subst e9
    exact aRetI hC hT hF rfl rfl
def X6_at_11 (a1 : Int32) (S : aSt) : Int32 := (if a1 < (0 : Int32) then (0 : Int32) else (if (100 : Int32) ≤ a1 then (0 : Int32) else ((S.2.2 11) a1.toNatClampNeg)))
set_option maxHeartbeats 4000000 in
set_option maxRecDepth 100000 in
theorem J_X6_at_11 (l : Launch) (g : aWg) (a1 : Int32) (S : aSt) {r : Int32} (hf : X6_at_11 a1 S = r) : aJ l g yX6_at M_X6_at [.ref 11, .int a1] LAY S (some (.int r)) LAY S 0 0 := by
  refine aJ_of (by decide +kernel) rfl (Nat.le_of_ble_eq_true rfl) (fun h => nomatch h) ?_
  intro C hg hl hC hz hF
  subst hg; subst hl
  have hT := ok_X6_at
  unfold X6_at_11 at hf
  show aX C M_X6_at 0 0 (0, [(0, .ref 11), (1, .int a1)], [], LAY, S)
  refine aRun_ok hC hT 1 (cf' := (1, [(0, .ref 11), (1, .int a1)], [.int a1], LAY, S)) (by rfl) ?_
  refine aIf_lt hC hT (tgt := 16) rfl (by decide) (fun hc1 => ?_) (fun hc1 => ?_)
  · have hf := aIfT hf hc1
    refine aRun_ok hC hT 1 (cf' := (17, [(0, .ref 11), (1, .int a1)], [.int (0 : Int32)], LAY, S)) (by rfl) ?_
    subst hf
    exact aRetI hC hT hF rfl rfl
  · have hf := aIfF hf hc1
    refine aRun_ok hC hT 3 (cf' := (7, [(0, .ref 11), (1, .int a1)], [.int (100 : Int32), .int a1], LAY, S)) (by rfl) ?_
    refine aCmp_ge hC hT (tgt := 16) rfl (by decide) (fun hc2 => ?_) (fun hc2 => ?_)
    · have hf := aIfT hf hc2
      refine aRun_ok hC hT 1 (cf' := (17, [(0, .ref 11), (1, .int a1)], [.int (0 : Int32)], LAY, S)) (by rfl) ?_
      subst hf
      exact aRetI hC hT hF rfl rfl
    · have hf := aIfF hf hc2
      refine aRun_ok hC hT 2 (cf' := (12, [(0, .ref 11), (1, .int a1)], [.int a1, .ref 11], LAY, S)) (by rfl) ?_
      refine aIald hC hT rfl (by decide) (by rfl) (aIx_of hc1 hc2 (by decide)) ?_
      refine aRun_ok hC hT 1 (cf' := (17, [(0, .ref 11), (1, .int a1)], [.int ((S.2.2 11) a1.toNatClampNeg)], LAY, S)) (by rfl) ?_
      subst hf
      exact aRetI hC hT hF rfl rfl
def X2_readOf_8 (a1 : Int32) (a2 : Int32) (S : aSt) : Int32 := (aLet (X6_at_11 ((a1 * (10 : Int32)) + a2) S) (fun w1 => w1))
set_option maxHeartbeats 4000000 in
set_option maxRecDepth 100000 in
theorem J_X2_readOf_8 (l : Launch) (g : aWg) (a1 : Int32) (a2 : Int32) (S : aSt) {r : Int32} (hf : X2_readOf_8 a1 a2 S = r) : aJ l g yX2_readOf M_X2_readOf [.ref 8, .int a1, .int a2] LAY S (some (.int r)) LAY S 0 0 := by
  refine aJ_of (by decide +kernel) rfl (Nat.le_of_ble_eq_true rfl) (fun h => nomatch h) ?_
  intro C hg hl hC hz hF
  subst hg; subst hl
  have hT := ok_X2_readOf
  unfold X2_readOf_8 at hf
  show aX C M_X2_readOf 0 0 (0, [(0, .ref 8), (1, .int a1), (2, .int a2)], [], LAY, S)
  refine aRun_ok hC hT 7 (cf' := (10, [(0, .ref 8), (1, .int a1), (2, .int a2)], [.int ((a1 * (10 : Int32)) + a2), .ref 11], LAY, S)) (by rfl) ?_
  obtain ⟨w1, ew2, hf⟩ := aLetE hf
  refine aCallS (As := [.ref 11, .int ((a1 * (10 : Int32)) + a2)]) (rest := []) hC hT rfl k_X2_readOf_61.1 _ k_X2_readOf_61.2 (by rfl) (Nat.le_of_ble_eq_true rfl) (by decide) (J_X6_at_11 C.2.2.1 C.1 ((a1 * (10 : Int32)) + a2) S ew2) ?_
  subst hf
  exact aRetI hC hT hF rfl rfl
def X8_putFigures_14_b167 (N : Nat) (rec97 : Int32 → Int32 → Int32 → Int32 → Int32 → aSt → Option (aSt)) (v1 : Int32) (v2 : Int32) (v3 : Int32) (v4 : Int32) (v5 : Int32) (S : aSt) : Option (aSt) := (rec97 v1 v2 v3 v4 (v5 + (1 : Int32)) S)
set_option maxHeartbeats 4000000 in
set_option maxRecDepth 100000 in
theorem X8_putFigures_14_b167_ok {C : aC} {N : Nat} {rec97 : Int32 → Int32 → Int32 → Int32 → Int32 → aSt → Option (aSt)} (hC : aCx C M_X8_putFigures) {r : aSt} (hF : aFin C none LAY r 0 0) (hrec97 : ∀ (v1 : Int32) (v2 : Int32) (v3 : Int32) (v4 : Int32) (v5 : Int32) (S : aSt), rec97 v1 v2 v3 v4 v5 S = (some r) → aX C M_X8_putFigures 0 0 (97, [(0, .ref 14), (1, .int v1), (2, .int v2), (3, .int v3), (4, .int v4), (5, .int v5)], [], LAY, S)) (v1 : Int32) (v2 : Int32) (v3 : Int32) (v4 : Int32) (v5 : Int32) (S : aSt) (hf : X8_putFigures_14_b167 N rec97 v1 v2 v3 v4 v5 S = (some r)) : aX C M_X8_putFigures 0 0 (167, [(0, .ref 14), (1, .int v1), (2, .int v2), (3, .int v3), (4, .int v4), (5, .int v5)], [], LAY, S) := by
  have hT := ok_X8_putFigures
  unfold X8_putFigures_14_b167 at hf
  refine aRun_ok hC hT 2 (cf' := (97, [(5, .int (v5 + (1 : Int32))), (0, .ref 14), (1, .int v1), (2, .int v2), (3, .int v3), (4, .int v4)], [], LAY, S)) (by rfl) ?_
  refine aLocs [1, 2, 3, 4, 5, 0] (lv' := [(0, .ref 14), (1, .int v1), (2, .int v2), (3, .int v3), (4, .int v4), (5, .int (v5 + (1 : Int32)))]) rfl ?_
  exact hrec97 v1 v2 v3 v4 (v5 + (1 : Int32)) S hf
def X8_putFigures_14_b118 (N : Nat) (rec97 : Int32 → Int32 → Int32 → Int32 → Int32 → aSt → Option (aSt)) (rec118 : Int32 → Int32 → Int32 → Int32 → Int32 → Int32 → Int32 → aSt → Option (aSt)) (v1 : Int32) (v2 : Int32) (v3 : Int32) (v4 : Int32) (v5 : Int32) (v6 : Int32) (v7 : Int32) (S : aSt) : Option (aSt) := (if (9 : Int32) < v7 then (X8_putFigures_14_b167 N rec97 v1 v2 v3 v4 v5 S) else (aLet (X0_tens v5) (fun w8 => (aLet (X2_readOf_8 v7 v6 S) (fun w10 => (aLet (X8_putSum_14 (1 : Int32) v1 (v2 + ((v7 - v6) * w8)) (v3 * w10) S) (fun w12 => (rec118 v1 v2 v3 v4 v5 v6 (v7 + (1 : Int32)) w12))))))))
set_option maxHeartbeats 4000000 in
set_option maxRecDepth 100000 in
theorem X8_putFigures_14_b118_ok {C : aC} {N : Nat} {rec97 : Int32 → Int32 → Int32 → Int32 → Int32 → aSt → Option (aSt)} {rec118 : Int32 → Int32 → Int32 → Int32 → Int32 → Int32 → Int32 → aSt → Option (aSt)} (hC : aCx C M_X8_putFigures) {r : aSt} (hF : aFin C none LAY r 0 0) (hrec97 : ∀ (v1 : Int32) (v2 : Int32) (v3 : Int32) (v4 : Int32) (v5 : Int32) (S : aSt), rec97 v1 v2 v3 v4 v5 S = (some r) → aX C M_X8_putFigures 0 0 (97, [(0, .ref 14), (1, .int v1), (2, .int v2), (3, .int v3), (4, .int v4), (5, .int v5)], [], LAY, S)) (hrec118 : ∀ (v1 : Int32) (v2 : Int32) (v3 : Int32) (v4 : Int32) (v5 : Int32) (v6 : Int32) (v7 : Int32) (S : aSt), rec118 v1 v2 v3 v4 v5 v6 v7 S = (some r) → aX C M_X8_putFigures 0 0 (118, [(0, .ref 14), (1, .int v1), (2, .int v2), (3, .int v3), (4, .int v4), (5, .int v5), (6, .int v6), (7, .int v7)], [], LAY, S)) (v1 : Int32) (v2 : Int32) (v3 : Int32) (v4 : Int32) (v5 : Int32) (v6 : Int32) (v7 : Int32) (S : aSt) (hf : X8_putFigures_14_b118 N rec97 rec118 v1 v2 v3 v4 v5 v6 v7 S = (some r)) : aX C M_X8_putFigures 0 0 (118, [(0, .ref 14), (1, .int v1), (2, .int v2), (3, .int v3), (4, .int v4), (5, .int v5), (6, .int v6), (7, .int v7)], [], LAY, S) := by
  have hT := ok_X8_putFigures
  unfold X8_putFigures_14_b118 at hf
  refine aRun_ok hC hT 2 (cf' := (122, [(0, .ref 14), (1, .int v1), (2, .int v2), (3, .int v3), (4, .int v4), (5, .int v5), (6, .int v6), (7, .int v7)], [.int (9 : Int32), .int v7], LAY, S)) (by rfl) ?_
  refine aCmp_gt hC hT (tgt := 167) rfl (by decide) (fun hc7 => ?_) (fun hc7 => ?_)
  · have hf := aIfT hf hc7
    refine aLocs [0, 1, 2, 3, 4, 5] (lv' := [(0, .ref 14), (1, .int v1), (2, .int v2), (3, .int v3), (4, .int v4), (5, .int v5)]) rfl ?_
    exact X8_putFigures_14_b167_ok hC hF hrec97 v1 v2 v3 v4 v5 S hf
  · have hf := aIfF hf hc7
    refine aRun_ok hC hT 5 (cf' := (133, [(0, .ref 14), (1, .int v1), (2, .int v2), (3, .int v3), (4, .int v4), (5, .int v5), (6, .int v6), (7, .int v7)], [.int v5, .int (v7 - v6), .int v2], LAY, S)) (by rfl) ?_
    obtain ⟨w8, ew9, hf⟩ := aLetE hf
    refine aCallS (As := [.int v5]) (rest := [.int (v7 - v6), .int v2]) hC hT rfl k_X8_putFigures_130.1 _ k_X8_putFigures_130.2 (by rfl) (Nat.le_of_ble_eq_true rfl) (by decide) (J_X0_tens C.2.2.1 C.1 v5 S ew9) ?_
    refine aRun_ok hC hT 12 (cf' := (154, [(8, .int (v2 + ((v7 - v6) * w8))), (0, .ref 14), (1, .int v1), (2, .int v2), (3, .int v3), (4, .int v4), (5, .int v5), (6, .int v6), (7, .int v7)], [.int v6, .int v7, .ref 8, .int v3, .int (v2 + ((v7 - v6) * w8)), .int v1, .int (1 : Int32), .ref 14], LAY, S)) (by rfl) ?_
    obtain ⟨w10, ew11, hf⟩ := aLetE hf
    refine aCallV (b := 8) (As := [.int v7, .int v6]) (rest := [.int v3, .int (v2 + ((v7 - v6) * w8)), .int v1, .int (1 : Int32), .ref 14]) hC hT rfl k_X8_putFigures_133.1 _ _ k_X8_putFigures_133.2 (by decide) (by rfl) (by rfl) (by rfl) (Nat.le_of_ble_eq_true rfl) (by decide) (J_X2_readOf_8 C.2.2.1 C.1 v7 v6 S ew11) ?_
    refine aRun_ok hC hT 1 (cf' := (158, [(8, .int (v2 + ((v7 - v6) * w8))), (0, .ref 14), (1, .int v1), (2, .int v2), (3, .int v3), (4, .int v4), (5, .int v5), (6, .int v6), (7, .int v7)], [.int (v3 * w10), .int (v2 + ((v7 - v6) * w8)), .int v1, .int (1 : Int32), .ref 14], LAY, S)) (by rfl) ?_
    obtain ⟨w12, ew13, hf⟩ := aLetE hf
    refine aCallV (b := 14) (As := [.int (1 : Int32), .int v1, .int (v2 + ((v7 - v6) * w8)), .int (v3 * w10)]) (rest := []) hC hT rfl k_X8_putFigures_88.1 _ _ k_X8_putFigures_88.2 (by decide) (by rfl) (by rfl) (by rfl) (Nat.le_of_ble_eq_true rfl) (by decide) (J_X8_putSum_14 C.2.2.1 C.1 (1 : Int32) v1 (v2 + ((v7 - v6) * w8)) (v3 * w10) S ew13) ?_
    refine aRun_ok hC hT 2 (cf' := (118, [(7, .int (v7 + (1 : Int32))), (8, .int (v2 + ((v7 - v6) * w8))), (0, .ref 14), (1, .int v1), (2, .int v2), (3, .int v3), (4, .int v4), (5, .int v5), (6, .int v6)], [], LAY, w12)) (by rfl) ?_
    refine aLocs [2, 3, 4, 5, 6, 7, 8, 0] (lv' := [(0, .ref 14), (1, .int v1), (2, .int v2), (3, .int v3), (4, .int v4), (5, .int v5), (6, .int v6), (7, .int (v7 + (1 : Int32)))]) rfl ?_
    exact hrec118 v1 v2 v3 v4 v5 v6 (v7 + (1 : Int32)) w12 hf
def X8_putFigures_14_l118 (N : Nat) (rec97 : Int32 → Int32 → Int32 → Int32 → Int32 → aSt → Option (aSt)) : Nat → Int32 → Int32 → Int32 → Int32 → Int32 → Int32 → Int32 → aSt → Option (aSt)
  | 0 => fun _ _ _ _ _ _ _ _ => none
  | n + 1 => X8_putFigures_14_b118 N rec97 (X8_putFigures_14_l118 N rec97 n)
theorem X8_putFigures_14_l118_ok {C : aC} {N : Nat} {rec97 : Int32 → Int32 → Int32 → Int32 → Int32 → aSt → Option (aSt)} (hC : aCx C M_X8_putFigures) {r : aSt} (hF : aFin C none LAY r 0 0) (hrec97 : ∀ (v1 : Int32) (v2 : Int32) (v3 : Int32) (v4 : Int32) (v5 : Int32) (S : aSt), rec97 v1 v2 v3 v4 v5 S = (some r) → aX C M_X8_putFigures 0 0 (97, [(0, .ref 14), (1, .int v1), (2, .int v2), (3, .int v3), (4, .int v4), (5, .int v5)], [], LAY, S)) : ∀ (n : Nat) (v1 : Int32) (v2 : Int32) (v3 : Int32) (v4 : Int32) (v5 : Int32) (v6 : Int32) (v7 : Int32) (S : aSt), X8_putFigures_14_l118 N rec97 n v1 v2 v3 v4 v5 v6 v7 S = (some r) → aX C M_X8_putFigures 0 0 (118, [(0, .ref 14), (1, .int v1), (2, .int v2), (3, .int v3), (4, .int v4), (5, .int v5), (6, .int v6), (7, .int v7)], [], LAY, S)
  | 0, _, _, _, _, _, _, _, _,  h => nomatch (show (none : Option (aSt)) = some _ from h)
  | n + 1, v1, v2, v3, v4, v5, v6, v7, S,  h => X8_putFigures_14_b118_ok hC hF hrec97 (fun v1 v2 v3 v4 v5 v6 v7 S h => X8_putFigures_14_l118_ok hC hF hrec97 n v1 v2 v3 v4 v5 v6 v7 S h) v1 v2 v3 v4 v5 v6 v7 S h
def X8_putFigures_14_b97 (N : Nat) (rec97 : Int32 → Int32 → Int32 → Int32 → Int32 → aSt → Option (aSt)) (v1 : Int32) (v2 : Int32) (v3 : Int32) (v4 : Int32) (v5 : Int32) (S : aSt) : Option (aSt) := (if v4 < v5 then some (S) else (Option.bind (X0_at N v2 v5) (fun w5 => (X8_putFigures_14_l118 N rec97 N v1 v2 v3 v4 v5 w5 (w5 + (1 : Int32)) S))))
set_option maxHeartbeats 4000000 in
set_option maxRecDepth 100000 in
theorem X8_putFigures_14_b97_ok {C : aC} {N : Nat} {rec97 : Int32 → Int32 → Int32 → Int32 → Int32 → aSt → Option (aSt)} (hC : aCx C M_X8_putFigures) {r : aSt} (hF : aFin C none LAY r 0 0) (hrec97 : ∀ (v1 : Int32) (v2 : Int32) (v3 : Int32) (v4 : Int32) (v5 : Int32) (S : aSt), rec97 v1 v2 v3 v4 v5 S = (some r) → aX C M_X8_putFigures 0 0 (97, [(0, .ref 14), (1, .int v1), (2, .int v2), (3, .int v3), (4, .int v4), (5, .int v5)], [], LAY, S)) (v1 : Int32) (v2 : Int32) (v3 : Int32) (v4 : Int32) (v5 : Int32) (S : aSt) (hf : X8_putFigures_14_b97 N rec97 v1 v2 v3 v4 v5 S = (some r)) : aX C M_X8_putFigures 0 0 (97, [(0, .ref 14), (1, .int v1), (2, .int v2), (3, .int v3), (4, .int v4), (5, .int v5)], [], LAY, S) := by
  have hT := ok_X8_putFigures
  unfold X8_putFigures_14_b97 at hf
  refine aRun_ok hC hT 2 (cf' := (101, [(0, .ref 14), (1, .int v1), (2, .int v2), (3, .int v3), (4, .int v4), (5, .int v5)], [.int v4, .int v5], LAY, S)) (by rfl) ?_
  refine aCmp_gt hC hT (tgt := 173) rfl (by decide) (fun hc4 => ?_) (fun hc4 => ?_)
  · have hf := aIfT hf hc4
    have e9 := Option.some.inj hf; subst e9
    exact aRetV hC hT hF rfl rfl
  · have hf := aIfF hf hc4
    refine aRun_ok hC hT 2 (cf' := (107, [(0, .ref 14), (1, .int v1), (2, .int v2), (3, .int v3), (4, .int v4), (5, .int v5)], [.int v5, .int v2], LAY, S)) (by rfl) ?_
    obtain ⟨w5, ew6, hf⟩ := aBnE hf
    refine aCallS (As := [.int v2, .int v5]) (rest := []) hC hT rfl k_X8_putFigures_128.1 _ k_X8_putFigures_128.2 (by rfl) (Nat.le_of_ble_eq_true rfl) (by decide) (J_X0_at C.2.2.1 C.1 N v2 v5 S ew6) ?_
    refine aRun_ok hC hT 5 (cf' := (118, [(7, .int (w5 + (1 : Int32))), (6, .int w5), (0, .ref 14), (1, .int v1), (2, .int v2), (3, .int v3), (4, .int v4), (5, .int v5)], [], LAY, S)) (by rfl) ?_
    refine aLocs [2, 3, 4, 5, 6, 7, 1, 0] (lv' := [(0, .ref 14), (1, .int v1), (2, .int v2), (3, .int v3), (4, .int v4), (5, .int v5), (6, .int w5), (7, .int (w5 + (1 : Int32)))]) rfl ?_
    exact X8_putFigures_14_l118_ok hC hF hrec97 N v1 v2 v3 v4 v5 w5 (w5 + (1 : Int32)) S hf
def X8_putFigures_14_l97 (N : Nat) : Nat → Int32 → Int32 → Int32 → Int32 → Int32 → aSt → Option (aSt)
  | 0 => fun _ _ _ _ _ _ => none
  | n + 1 => X8_putFigures_14_b97 N (X8_putFigures_14_l97 N n)
theorem X8_putFigures_14_l97_ok {C : aC} {N : Nat} (hC : aCx C M_X8_putFigures) {r : aSt} (hF : aFin C none LAY r 0 0) : ∀ (n : Nat) (v1 : Int32) (v2 : Int32) (v3 : Int32) (v4 : Int32) (v5 : Int32) (S : aSt), X8_putFigures_14_l97 N n v1 v2 v3 v4 v5 S = (some r) → aX C M_X8_putFigures 0 0 (97, [(0, .ref 14), (1, .int v1), (2, .int v2), (3, .int v3), (4, .int v4), (5, .int v5)], [], LAY, S)
  | 0, _, _, _, _, _, _,  h => nomatch (show (none : Option (aSt)) = some _ from h)
  | n + 1, v1, v2, v3, v4, v5, S,  h => X8_putFigures_14_b97_ok hC hF (fun v1 v2 v3 v4 v5 S h => X8_putFigures_14_l97_ok hC hF n v1 v2 v3 v4 v5 S h) v1 v2 v3 v4 v5 S h
def X8_putFigures_14_b94 (N : Nat) (v1 : Int32) (v2 : Int32) (v3 : Int32) (v4 : Int32) (S : aSt) : Option (aSt) := (X8_putFigures_14_l97 N N v1 v2 v3 v4 (0 : Int32) S)
set_option maxHeartbeats 4000000 in
set_option maxRecDepth 100000 in
theorem X8_putFigures_14_b94_ok {C : aC} {N : Nat} (hC : aCx C M_X8_putFigures) {r : aSt} (hF : aFin C none LAY r 0 0) (v1 : Int32) (v2 : Int32) (v3 : Int32) (v4 : Int32) (S : aSt) (hf : X8_putFigures_14_b94 N v1 v2 v3 v4 S = (some r)) : aX C M_X8_putFigures 0 0 (94, [(0, .ref 14), (1, .int v1), (2, .int v2), (3, .int v3), (4, .int v4)], [], LAY, S) := by
  have hT := ok_X8_putFigures
  unfold X8_putFigures_14_b94 at hf
  refine aRun_ok hC hT 2 (cf' := (97, [(5, .int (0 : Int32)), (0, .ref 14), (1, .int v1), (2, .int v2), (3, .int v3), (4, .int v4)], [], LAY, S)) (by rfl) ?_
  refine aLocs [1, 2, 3, 4, 5, 0] (lv' := [(0, .ref 14), (1, .int v1), (2, .int v2), (3, .int v3), (4, .int v4), (5, .int (0 : Int32))]) rfl ?_
  exact X8_putFigures_14_l97_ok hC hF N v1 v2 v3 v4 (0 : Int32) S hf
def X8_putFigures_14_b88 (N : Nat) (rec12 : Int32 → Int32 → Int32 → Int32 → Int32 → aSt → Option (aSt)) (v1 : Int32) (v2 : Int32) (v3 : Int32) (v4 : Int32) (v5 : Int32) (S : aSt) : Option (aSt) := (rec12 v1 v2 v3 v4 (v5 + ((-1) : Int32)) S)
set_option maxHeartbeats 4000000 in
set_option maxRecDepth 100000 in
theorem X8_putFigures_14_b88_ok {C : aC} {N : Nat} {rec12 : Int32 → Int32 → Int32 → Int32 → Int32 → aSt → Option (aSt)} (hC : aCx C M_X8_putFigures) {r : aSt} (hF : aFin C none LAY r 0 0) (hrec12 : ∀ (v1 : Int32) (v2 : Int32) (v3 : Int32) (v4 : Int32) (v5 : Int32) (S : aSt), rec12 v1 v2 v3 v4 v5 S = (some r) → aX C M_X8_putFigures 0 0 (12, [(0, .ref 14), (1, .int v1), (2, .int v2), (3, .int v3), (4, .int v4), (5, .int v5)], [], LAY, S)) (v1 : Int32) (v2 : Int32) (v3 : Int32) (v4 : Int32) (v5 : Int32) (S : aSt) (hf : X8_putFigures_14_b88 N rec12 v1 v2 v3 v4 v5 S = (some r)) : aX C M_X8_putFigures 0 0 (88, [(0, .ref 14), (1, .int v1), (2, .int v2), (3, .int v3), (4, .int v4), (5, .int v5)], [], LAY, S) := by
  have hT := ok_X8_putFigures
  unfold X8_putFigures_14_b88 at hf
  refine aRun_ok hC hT 2 (cf' := (12, [(5, .int (v5 + ((-1) : Int32))), (0, .ref 14), (1, .int v1), (2, .int v2), (3, .int v3), (4, .int v4)], [], LAY, S)) (by rfl) ?_
  refine aLocs [1, 2, 3, 4, 5, 0] (lv' := [(0, .ref 14), (1, .int v1), (2, .int v2), (3, .int v3), (4, .int v4), (5, .int (v5 + ((-1) : Int32)))]) rfl ?_
  exact hrec12 v1 v2 v3 v4 (v5 + ((-1) : Int32)) S hf
def X8_putFigures_14_b39 (N : Nat) (rec12 : Int32 → Int32 → Int32 → Int32 → Int32 → aSt → Option (aSt)) (rec39 : Int32 → Int32 → Int32 → Int32 → Int32 → Int32 → Int32 → aSt → Option (aSt)) (v1 : Int32) (v2 : Int32) (v3 : Int32) (v4 : Int32) (v5 : Int32) (v6 : Int32) (v7 : Int32) (S : aSt) : Option (aSt) := (if v6 ≤ v7 then (X8_putFigures_14_b88 N rec12 v1 v2 v3 v4 v5 S) else (aLet (X0_tens v5) (fun w18 => (aLet (X2_readOf_8 v7 v6 S) (fun w20 => (aLet (X8_putSum_14 (1 : Int32) v1 (v2 + ((v7 - v6) * w18)) (v3 * w20) S) (fun w22 => (rec39 v1 v2 v3 v4 v5 v6 (v7 + (1 : Int32)) w22))))))))
set_option maxHeartbeats 4000000 in
set_option maxRecDepth 100000 in
theorem X8_putFigures_14_b39_ok {C : aC} {N : Nat} {rec12 : Int32 → Int32 → Int32 → Int32 → Int32 → aSt → Option (aSt)} {rec39 : Int32 → Int32 → Int32 → Int32 → Int32 → Int32 → Int32 → aSt → Option (aSt)} (hC : aCx C M_X8_putFigures) {r : aSt} (hF : aFin C none LAY r 0 0) (hrec12 : ∀ (v1 : Int32) (v2 : Int32) (v3 : Int32) (v4 : Int32) (v5 : Int32) (S : aSt), rec12 v1 v2 v3 v4 v5 S = (some r) → aX C M_X8_putFigures 0 0 (12, [(0, .ref 14), (1, .int v1), (2, .int v2), (3, .int v3), (4, .int v4), (5, .int v5)], [], LAY, S)) (hrec39 : ∀ (v1 : Int32) (v2 : Int32) (v3 : Int32) (v4 : Int32) (v5 : Int32) (v6 : Int32) (v7 : Int32) (S : aSt), rec39 v1 v2 v3 v4 v5 v6 v7 S = (some r) → aX C M_X8_putFigures 0 0 (39, [(0, .ref 14), (1, .int v1), (2, .int v2), (3, .int v3), (4, .int v4), (5, .int v5), (6, .int v6), (7, .int v7)], [], LAY, S)) (v1 : Int32) (v2 : Int32) (v3 : Int32) (v4 : Int32) (v5 : Int32) (v6 : Int32) (v7 : Int32) (S : aSt) (hf : X8_putFigures_14_b39 N rec12 rec39 v1 v2 v3 v4 v5 v6 v7 S = (some r)) : aX C M_X8_putFigures 0 0 (39, [(0, .ref 14), (1, .int v1), (2, .int v2), (3, .int v3), (4, .int v4), (5, .int v5), (6, .int v6), (7, .int v7)], [], LAY, S) := by
  have hT := ok_X8_putFigures
  unfold X8_putFigures_14_b39 at hf
  refine aRun_ok hC hT 2 (cf' := (43, [(0, .ref 14), (1, .int v1), (2, .int v2), (3, .int v3), (4, .int v4), (5, .int v5), (6, .int v6), (7, .int v7)], [.int v6, .int v7], LAY, S)) (by rfl) ?_
  refine aCmp_ge hC hT (tgt := 88) rfl (by decide) (fun hc17 => ?_) (fun hc17 => ?_)
  · have hf := aIfT hf hc17
    refine aLocs [0, 1, 2, 3, 4, 5] (lv' := [(0, .ref 14), (1, .int v1), (2, .int v2), (3, .int v3), (4, .int v4), (5, .int v5)]) rfl ?_
    exact X8_putFigures_14_b88_ok hC hF hrec12 v1 v2 v3 v4 v5 S hf
  · have hf := aIfF hf hc17
    refine aRun_ok hC hT 5 (cf' := (54, [(0, .ref 14), (1, .int v1), (2, .int v2), (3, .int v3), (4, .int v4), (5, .int v5), (6, .int v6), (7, .int v7)], [.int v5, .int (v7 - v6), .int v2], LAY, S)) (by rfl) ?_
    obtain ⟨w18, ew19, hf⟩ := aLetE hf
    refine aCallS (As := [.int v5]) (rest := [.int (v7 - v6), .int v2]) hC hT rfl k_X8_putFigures_130.1 _ k_X8_putFigures_130.2 (by rfl) (Nat.le_of_ble_eq_true rfl) (by decide) (J_X0_tens C.2.2.1 C.1 v5 S ew19) ?_
    refine aRun_ok hC hT 12 (cf' := (75, [(8, .int (v2 + ((v7 - v6) * w18))), (0, .ref 14), (1, .int v1), (2, .int v2), (3, .int v3), (4, .int v4), (5, .int v5), (6, .int v6), (7, .int v7)], [.int v6, .int v7, .ref 8, .int v3, .int (v2 + ((v7 - v6) * w18)), .int v1, .int (1 : Int32), .ref 14], LAY, S)) (by rfl) ?_
    obtain ⟨w20, ew21, hf⟩ := aLetE hf
    refine aCallV (b := 8) (As := [.int v7, .int v6]) (rest := [.int v3, .int (v2 + ((v7 - v6) * w18)), .int v1, .int (1 : Int32), .ref 14]) hC hT rfl k_X8_putFigures_133.1 _ _ k_X8_putFigures_133.2 (by decide) (by rfl) (by rfl) (by rfl) (Nat.le_of_ble_eq_true rfl) (by decide) (J_X2_readOf_8 C.2.2.1 C.1 v7 v6 S ew21) ?_
    refine aRun_ok hC hT 1 (cf' := (79, [(8, .int (v2 + ((v7 - v6) * w18))), (0, .ref 14), (1, .int v1), (2, .int v2), (3, .int v3), (4, .int v4), (5, .int v5), (6, .int v6), (7, .int v7)], [.int (v3 * w20), .int (v2 + ((v7 - v6) * w18)), .int v1, .int (1 : Int32), .ref 14], LAY, S)) (by rfl) ?_
    obtain ⟨w22, ew23, hf⟩ := aLetE hf
    refine aCallV (b := 14) (As := [.int (1 : Int32), .int v1, .int (v2 + ((v7 - v6) * w18)), .int (v3 * w20)]) (rest := []) hC hT rfl k_X8_putFigures_88.1 _ _ k_X8_putFigures_88.2 (by decide) (by rfl) (by rfl) (by rfl) (Nat.le_of_ble_eq_true rfl) (by decide) (J_X8_putSum_14 C.2.2.1 C.1 (1 : Int32) v1 (v2 + ((v7 - v6) * w18)) (v3 * w20) S ew23) ?_
    refine aRun_ok hC hT 2 (cf' := (39, [(7, .int (v7 + (1 : Int32))), (8, .int (v2 + ((v7 - v6) * w18))), (0, .ref 14), (1, .int v1), (2, .int v2), (3, .int v3), (4, .int v4), (5, .int v5), (6, .int v6)], [], LAY, w22)) (by rfl) ?_
    refine aLocs [2, 3, 4, 5, 6, 7, 8, 0] (lv' := [(0, .ref 14), (1, .int v1), (2, .int v2), (3, .int v3), (4, .int v4), (5, .int v5), (6, .int v6), (7, .int (v7 + (1 : Int32)))]) rfl ?_
    exact hrec39 v1 v2 v3 v4 v5 v6 (v7 + (1 : Int32)) w22 hf
def X8_putFigures_14_l39 (N : Nat) (rec12 : Int32 → Int32 → Int32 → Int32 → Int32 → aSt → Option (aSt)) : Nat → Int32 → Int32 → Int32 → Int32 → Int32 → Int32 → Int32 → aSt → Option (aSt)
  | 0 => fun _ _ _ _ _ _ _ _ => none
  | n + 1 => X8_putFigures_14_b39 N rec12 (X8_putFigures_14_l39 N rec12 n)
theorem X8_putFigures_14_l39_ok {C : aC} {N : Nat} {rec12 : Int32 → Int32 → Int32 → Int32 → Int32 → aSt → Option (aSt)} (hC : aCx C M_X8_putFigures) {r : aSt} (hF : aFin C none LAY r 0 0) (hrec12 : ∀ (v1 : Int32) (v2 : Int32) (v3 : Int32) (v4 : Int32) (v5 : Int32) (S : aSt), rec12 v1 v2 v3 v4 v5 S = (some r) → aX C M_X8_putFigures 0 0 (12, [(0, .ref 14), (1, .int v1), (2, .int v2), (3, .int v3), (4, .int v4), (5, .int v5)], [], LAY, S)) : ∀ (n : Nat) (v1 : Int32) (v2 : Int32) (v3 : Int32) (v4 : Int32) (v5 : Int32) (v6 : Int32) (v7 : Int32) (S : aSt), X8_putFigures_14_l39 N rec12 n v1 v2 v3 v4 v5 v6 v7 S = (some r) → aX C M_X8_putFigures 0 0 (39, [(0, .ref 14), (1, .int v1), (2, .int v2), (3, .int v3), (4, .int v4), (5, .int v5), (6, .int v6), (7, .int v7)], [], LAY, S)
  | 0, _, _, _, _, _, _, _, _,  h => nomatch (show (none : Option (aSt)) = some _ from h)
  | n + 1, v1, v2, v3, v4, v5, v6, v7, S,  h => X8_putFigures_14_b39_ok hC hF hrec12 (fun v1 v2 v3 v4 v5 v6 v7 S h => X8_putFigures_14_l39_ok hC hF hrec12 n v1 v2 v3 v4 v5 v6 v7 S h) v1 v2 v3 v4 v5 v6 v7 S h
def X8_putFigures_14_b37 (N : Nat) (rec12 : Int32 → Int32 → Int32 → Int32 → Int32 → aSt → Option (aSt)) (v1 : Int32) (v2 : Int32) (v3 : Int32) (v4 : Int32) (v5 : Int32) (v6 : Int32) (s0 : Int32) (S : aSt) : Option (aSt) := (X8_putFigures_14_l39 N rec12 N v1 v2 v3 v4 v5 v6 s0 S)
set_option maxHeartbeats 4000000 in
set_option maxRecDepth 100000 in
theorem X8_putFigures_14_b37_ok {C : aC} {N : Nat} {rec12 : Int32 → Int32 → Int32 → Int32 → Int32 → aSt → Option (aSt)} (hC : aCx C M_X8_putFigures) {r : aSt} (hF : aFin C none LAY r 0 0) (hrec12 : ∀ (v1 : Int32) (v2 : Int32) (v3 : Int32) (v4 : Int32) (v5 : Int32) (S : aSt), rec12 v1 v2 v3 v4 v5 S = (some r) → aX C M_X8_putFigures 0 0 (12, [(0, .ref 14), (1, .int v1), (2, .int v2), (3, .int v3), (4, .int v4), (5, .int v5)], [], LAY, S)) (v1 : Int32) (v2 : Int32) (v3 : Int32) (v4 : Int32) (v5 : Int32) (v6 : Int32) (s0 : Int32) (S : aSt) (hf : X8_putFigures_14_b37 N rec12 v1 v2 v3 v4 v5 v6 s0 S = (some r)) : aX C M_X8_putFigures 0 0 (37, [(0, .ref 14), (1, .int v1), (2, .int v2), (3, .int v3), (4, .int v4), (5, .int v5), (6, .int v6)], [.int s0], LAY, S) := by
  have hT := ok_X8_putFigures
  unfold X8_putFigures_14_b37 at hf
  refine aRun_ok hC hT 1 (cf' := (39, [(7, .int s0), (0, .ref 14), (1, .int v1), (2, .int v2), (3, .int v3), (4, .int v4), (5, .int v5), (6, .int v6)], [], LAY, S)) (by rfl) ?_
  refine aLocs [1, 2, 3, 4, 5, 6, 7, 0] (lv' := [(0, .ref 14), (1, .int v1), (2, .int v2), (3, .int v3), (4, .int v4), (5, .int v5), (6, .int v6), (7, .int s0)]) rfl ?_
  exact X8_putFigures_14_l39_ok hC hF hrec12 N v1 v2 v3 v4 v5 v6 s0 S hf
def X8_putFigures_14_b12 (N : Nat) (rec12 : Int32 → Int32 → Int32 → Int32 → Int32 → aSt → Option (aSt)) (v1 : Int32) (v2 : Int32) (v3 : Int32) (v4 : Int32) (v5 : Int32) (S : aSt) : Option (aSt) := (if v5 < (0 : Int32) then (X8_putFigures_14_b94 N v1 v2 v3 v4 S) else (Option.bind (X0_at N v2 v5) (fun w14 => (if v5 = v4 then (X8_putFigures_14_b37 N rec12 v1 v2 v3 v4 v5 w14 (1 : Int32) S) else (X8_putFigures_14_b37 N rec12 v1 v2 v3 v4 v5 w14 (0 : Int32) S)))))
set_option maxHeartbeats 4000000 in
set_option maxRecDepth 100000 in
theorem X8_putFigures_14_b12_ok {C : aC} {N : Nat} {rec12 : Int32 → Int32 → Int32 → Int32 → Int32 → aSt → Option (aSt)} (hC : aCx C M_X8_putFigures) {r : aSt} (hF : aFin C none LAY r 0 0) (hrec12 : ∀ (v1 : Int32) (v2 : Int32) (v3 : Int32) (v4 : Int32) (v5 : Int32) (S : aSt), rec12 v1 v2 v3 v4 v5 S = (some r) → aX C M_X8_putFigures 0 0 (12, [(0, .ref 14), (1, .int v1), (2, .int v2), (3, .int v3), (4, .int v4), (5, .int v5)], [], LAY, S)) (v1 : Int32) (v2 : Int32) (v3 : Int32) (v4 : Int32) (v5 : Int32) (S : aSt) (hf : X8_putFigures_14_b12 N rec12 v1 v2 v3 v4 v5 S = (some r)) : aX C M_X8_putFigures 0 0 (12, [(0, .ref 14), (1, .int v1), (2, .int v2), (3, .int v3), (4, .int v4), (5, .int v5)], [], LAY, S) := by
  have hT := ok_X8_putFigures
  unfold X8_putFigures_14_b12 at hf
  refine aRun_ok hC hT 1 (cf' := (14, [(0, .ref 14), (1, .int v1), (2, .int v2), (3, .int v3), (4, .int v4), (5, .int v5)], [.int v5], LAY, S)) (by rfl) ?_
  refine aIf_lt hC hT (tgt := 94) rfl (by decide) (fun hc3 => ?_) (fun hc3 => ?_)
  · have hf := aIfT hf hc3
    refine aLocs [0, 1, 2, 3, 4] (lv' := [(0, .ref 14), (1, .int v1), (2, .int v2), (3, .int v3), (4, .int v4)]) rfl ?_
    exact X8_putFigures_14_b94_ok hC hF v1 v2 v3 v4 S hf
  · have hf := aIfF hf hc3
    refine aRun_ok hC hT 2 (cf' := (20, [(0, .ref 14), (1, .int v1), (2, .int v2), (3, .int v3), (4, .int v4), (5, .int v5)], [.int v5, .int v2], LAY, S)) (by rfl) ?_
    obtain ⟨w14, ew15, hf⟩ := aBnE hf
    refine aCallS (As := [.int v2, .int v5]) (rest := []) hC hT rfl k_X8_putFigures_128.1 _ k_X8_putFigures_128.2 (by rfl) (Nat.le_of_ble_eq_true rfl) (by decide) (J_X0_at C.2.2.1 C.1 N v2 v5 S ew15) ?_
    refine aRun_ok hC hT 3 (cf' := (29, [(6, .int w14), (0, .ref 14), (1, .int v1), (2, .int v2), (3, .int v3), (4, .int v4), (5, .int v5)], [.int v4, .int v5], LAY, S)) (by rfl) ?_
    refine aCmp_ne hC hT (tgt := 36) rfl (by decide) (fun hc16 => ?_) (fun hc16 => ?_)
    · have hf := aIfF hf hc16
      refine aRun_ok hC hT 1 (cf' := (37, [(6, .int w14), (0, .ref 14), (1, .int v1), (2, .int v2), (3, .int v3), (4, .int v4), (5, .int v5)], [.int (0 : Int32)], LAY, S)) (by rfl) ?_
      refine aLocs [1, 2, 3, 4, 5, 6, 0] (lv' := [(0, .ref 14), (1, .int v1), (2, .int v2), (3, .int v3), (4, .int v4), (5, .int v5), (6, .int w14)]) rfl ?_
      exact X8_putFigures_14_b37_ok hC hF hrec12 v1 v2 v3 v4 v5 w14 (0 : Int32) S hf
    · have hf := aIfT hf hc16
      refine aRun_ok hC hT 2 (cf' := (37, [(6, .int w14), (0, .ref 14), (1, .int v1), (2, .int v2), (3, .int v3), (4, .int v4), (5, .int v5)], [.int (1 : Int32)], LAY, S)) (by rfl) ?_
      refine aLocs [1, 2, 3, 4, 5, 6, 0] (lv' := [(0, .ref 14), (1, .int v1), (2, .int v2), (3, .int v3), (4, .int v4), (5, .int v5), (6, .int w14)]) rfl ?_
      exact X8_putFigures_14_b37_ok hC hF hrec12 v1 v2 v3 v4 v5 w14 (1 : Int32) S hf
def X8_putFigures_14_l12 (N : Nat) : Nat → Int32 → Int32 → Int32 → Int32 → Int32 → aSt → Option (aSt)
  | 0 => fun _ _ _ _ _ _ => none
  | n + 1 => X8_putFigures_14_b12 N (X8_putFigures_14_l12 N n)
theorem X8_putFigures_14_l12_ok {C : aC} {N : Nat} (hC : aCx C M_X8_putFigures) {r : aSt} (hF : aFin C none LAY r 0 0) : ∀ (n : Nat) (v1 : Int32) (v2 : Int32) (v3 : Int32) (v4 : Int32) (v5 : Int32) (S : aSt), X8_putFigures_14_l12 N n v1 v2 v3 v4 v5 S = (some r) → aX C M_X8_putFigures 0 0 (12, [(0, .ref 14), (1, .int v1), (2, .int v2), (3, .int v3), (4, .int v4), (5, .int v5)], [], LAY, S)
  | 0, _, _, _, _, _, _,  h => nomatch (show (none : Option (aSt)) = some _ from h)
  | n + 1, v1, v2, v3, v4, v5, S,  h => X8_putFigures_14_b12_ok hC hF (fun v1 v2 v3 v4 v5 S h => X8_putFigures_14_l12_ok hC hF n v1 v2 v3 v4 v5 S h) v1 v2 v3 v4 v5 S h
def X8_putFigures_14 (N : Nat) (a1 : Int32) (a2 : Int32) (a3 : Int32) (S : aSt) : Option (aSt) := (Option.bind (X0_many N a2) (fun w1 => (X8_putFigures_14_l12 N N a1 a2 a3 (w1 - (1 : Int32)) (w1 - (1 : Int32)) S)))
set_option maxHeartbeats 4000000 in
set_option maxRecDepth 100000 in
theorem J_X8_putFigures_14 (l : Launch) (g : aWg) (N : Nat) (a1 : Int32) (a2 : Int32) (a3 : Int32) (S : aSt) {r : aSt} (hf : X8_putFigures_14 N a1 a2 a3 S = (some r)) : aJ l g yX8_putFigures M_X8_putFigures [.ref 14, .int a1, .int a2, .int a3] LAY S none LAY r 0 0 := by
  refine aJ_of (by decide +kernel) rfl (Nat.le_of_ble_eq_true rfl) (fun h => nomatch h) ?_
  intro C hg hl hC hz hF
  subst hg; subst hl
  have hT := ok_X8_putFigures
  unfold X8_putFigures_14 at hf
  show aX C M_X8_putFigures 0 0 (0, [(0, .ref 14), (1, .int a1), (2, .int a2), (3, .int a3)], [], LAY, S)
  refine aRun_ok hC hT 1 (cf' := (1, [(0, .ref 14), (1, .int a1), (2, .int a2), (3, .int a3)], [.int a2], LAY, S)) (by rfl) ?_
  obtain ⟨w1, ew2, hf⟩ := aBnE hf
  refine aCallS (As := [.int a2]) (rest := []) hC hT rfl k_X8_putFigures_122.1 _ k_X8_putFigures_122.2 (by rfl) (Nat.le_of_ble_eq_true rfl) (by decide) (J_X0_many C.2.2.1 C.1 N a2 S ew2) ?_
  refine aRun_ok hC hT 5 (cf' := (12, [(5, .int (w1 - (1 : Int32))), (4, .int (w1 - (1 : Int32))), (0, .ref 14), (1, .int a1), (2, .int a2), (3, .int a3)], [], LAY, S)) (by rfl) ?_
  refine aLocs [2, 3, 4, 5, 1, 0] (lv' := [(0, .ref 14), (1, .int a1), (2, .int a2), (3, .int a3), (4, .int (w1 - (1 : Int32))), (5, .int (w1 - (1 : Int32)))]) rfl ?_
  exact X8_putFigures_14_l12_ok hC hF N a1 a2 a3 (w1 - (1 : Int32)) (w1 - (1 : Int32)) S hf
def X0_turned_b65 (N : Nat) (v0 : Int32) (v2 : Int32) (v4 : Int32) (v5 : Int32) : Option (Int32) := some ((v0 + (((v4 - v5) * (9 : Int32)) * v2)))
set_option maxHeartbeats 4000000 in
set_option maxRecDepth 100000 in
theorem X0_turned_b65_ok {C : aC} {N : Nat} {S : aSt} (hC : aCx C M_X0_turned) {r : Int32} (hF : aFin C (some (.int r)) LAY S 0 0) (v0 : Int32) (v2 : Int32) (v4 : Int32) (v5 : Int32) (hf : X0_turned_b65 N v0 v2 v4 v5 = (some r)) : aX C M_X0_turned 0 0 (65, [(0, .int v0), (2, .int v2), (4, .int v4), (5, .int v5)], [], LAY, S) := by
  have hT := ok_X0_turned
  unfold X0_turned_b65 at hf
  refine aRun_ok hC hT 9 (cf' := (77, [(0, .int v0), (2, .int v2), (4, .int v4), (5, .int v5)], [.int (v0 + (((v4 - v5) * (9 : Int32)) * v2))], LAY, S)) (by rfl) ?_
  have e9 := Option.some.inj hf; subst e9
  exact aRetI hC hT hF rfl rfl
def X0_turned_b44 (N : Nat) (v0 : Int32) (v2 : Int32) (v4 : Int32) (v5 : Int32) (s0 : Int32) : Option (Int32) := (if v4 = v5 then some ((0 : Int32)) else (if s0 = (0 : Int32) then (X0_turned_b65 N v0 v2 v4 v5) else (if v4 = (0 : Int32) then some ((0 : Int32)) else (X0_turned_b65 N v0 v2 v4 v5))))
set_option maxHeartbeats 4000000 in
set_option maxRecDepth 100000 in
theorem X0_turned_b44_ok {C : aC} {N : Nat} {S : aSt} (hC : aCx C M_X0_turned) {r : Int32} (hF : aFin C (some (.int r)) LAY S 0 0) (v0 : Int32) (v2 : Int32) (v4 : Int32) (v5 : Int32) (s0 : Int32) (hf : X0_turned_b44 N v0 v2 v4 v5 s0 = (some r)) : aX C M_X0_turned 0 0 (44, [(0, .int v0), (2, .int v2), (4, .int v4), (5, .int v5)], [.int s0], LAY, S) := by
  have hT := ok_X0_turned
  unfold X0_turned_b44 at hf
  refine aRun_ok hC hT 3 (cf' := (50, [(6, .int s0), (0, .int v0), (2, .int v2), (4, .int v4), (5, .int v5)], [.int v5, .int v4], LAY, S)) (by rfl) ?_
  refine aCmp_eq hC hT (tgt := 63) rfl (by decide) (fun hc6 => ?_) (fun hc6 => ?_)
  · have hf := aIfT hf hc6
    refine aRun_ok hC hT 1 (cf' := (64, [(6, .int s0), (0, .int v0), (2, .int v2), (4, .int v4), (5, .int v5)], [.int (0 : Int32)], LAY, S)) (by rfl) ?_
    have e9 := Option.some.inj hf; subst e9
    exact aRetI hC hT hF rfl rfl
  · have hf := aIfF hf hc6
    refine aRun_ok hC hT 1 (cf' := (55, [(6, .int s0), (0, .int v0), (2, .int v2), (4, .int v4), (5, .int v5)], [.int s0], LAY, S)) (by rfl) ?_
    refine aIf_eq hC hT (tgt := 65) rfl (by decide) (fun hc7 => ?_) (fun hc7 => ?_)
    · have hf := aIfT hf hc7
      refine aLocs [1, 2, 3, 4] (lv' := [(0, .int v0), (2, .int v2), (4, .int v4), (5, .int v5)]) rfl ?_
      exact X0_turned_b65_ok hC hF v0 v2 v4 v5 hf
    · have hf := aIfF hf hc7
      refine aRun_ok hC hT 1 (cf' := (60, [(6, .int s0), (0, .int v0), (2, .int v2), (4, .int v4), (5, .int v5)], [.int v4], LAY, S)) (by rfl) ?_
      refine aIf_ne hC hT (tgt := 65) rfl (by decide) (fun hc8 => ?_) (fun hc8 => ?_)
      · have hf := aIfF hf hc8
        refine aLocs [1, 2, 3, 4] (lv' := [(0, .int v0), (2, .int v2), (4, .int v4), (5, .int v5)]) rfl ?_
        exact X0_turned_b65_ok hC hF v0 v2 v4 v5 hf
      · have hf := aIfT hf hc8
        refine aRun_ok hC hT 1 (cf' := (64, [(6, .int s0), (0, .int v0), (2, .int v2), (4, .int v4), (5, .int v5)], [.int (0 : Int32)], LAY, S)) (by rfl) ?_
        have e9 := Option.some.inj hf; subst e9
        exact aRetI hC hT hF rfl rfl
def X0_turned (N : Nat) (a0 : Int32) (a1 : Int32) : Option (Int32) := (aLet (X6_at_1001 a1) (fun w1 => (if (0 : Int32) < w1 then (if ¬ w1 = (0 : Int32) then (if (100 : Int32) ≤ (a0 / w1) then (X0_turned_b44 N a0 w1 ((a0 / w1) - (a0 / w1) / (10 : Int32) * (10 : Int32)) (((a0 / w1) / (10 : Int32)) - ((a0 / w1) / (10 : Int32)) / (10 : Int32) * (10 : Int32)) (0 : Int32)) else (X0_turned_b44 N a0 w1 ((a0 / w1) - (a0 / w1) / (10 : Int32) * (10 : Int32)) (((a0 / w1) / (10 : Int32)) - ((a0 / w1) / (10 : Int32)) / (10 : Int32) * (10 : Int32)) (1 : Int32))) else none) else some ((0 : Int32)))))
set_option maxHeartbeats 4000000 in
set_option maxRecDepth 100000 in
theorem J_X0_turned (l : Launch) (g : aWg) (N : Nat) (a0 : Int32) (a1 : Int32) (S : aSt) {r : Int32} (hf : X0_turned N a0 a1 = (some r)) : aJ l g yX0_turned M_X0_turned [.int a0, .int a1] LAY S (some (.int r)) LAY S 0 0 := by
  refine aJ_of (by decide +kernel) rfl (Nat.le_of_ble_eq_true rfl) (fun h => nomatch h) ?_
  intro C hg hl hC hz hF
  subst hg; subst hl
  have hT := ok_X0_turned
  unfold X0_turned at hf
  show aX C M_X0_turned 0 0 (0, [(0, .int a0), (1, .int a1)], [], LAY, S)
  refine aRun_ok hC hT 2 (cf' := (4, [(0, .int a0), (1, .int a1)], [.int a1, .ref 1001], LAY, S)) (by rfl) ?_
  obtain ⟨w1, ew2, hf⟩ := aLetE hf
  refine aCallS (As := [.ref 1001, .int a1]) (rest := []) hC hT rfl k_X0_turned_15.1 _ k_X0_turned_15.2 (by rfl) (Nat.le_of_ble_eq_true rfl) (by decide) (J_X6_at_1001 C.2.2.1 C.1 a1 S ew2) ?_
  refine aRun_ok hC hT 2 (cf' := (9, [(2, .int w1), (0, .int a0), (1, .int a1)], [.int w1], LAY, S)) (by rfl) ?_
  refine aIf_gt hC hT (tgt := 14) rfl (by decide) (fun hc3 => ?_) (fun hc3 => ?_)
  · have hf := aIfT hf hc3
    refine aRun_ok hC hT 2 (cf' := (16, [(2, .int w1), (0, .int a0), (1, .int a1)], [.int w1, .int a0], LAY, S)) (by rfl) ?_
    obtain ⟨hy4, hf⟩ := aGdE hf
    refine aIdiv hC hT rfl hy4 ?_
    refine aRun_ok hC hT 13 (cf' := (36, [(5, .int (((a0 / w1) / (10 : Int32)) - ((a0 / w1) / (10 : Int32)) / (10 : Int32) * (10 : Int32))), (4, .int ((a0 / w1) - (a0 / w1) / (10 : Int32) * (10 : Int32))), (3, .int (a0 / w1)), (2, .int w1), (0, .int a0), (1, .int a1)], [.int (100 : Int32), .int (a0 / w1)], LAY, S)) (by rfl) ?_
    refine aCmp_ge hC hT (tgt := 43) rfl (by decide) (fun hc5 => ?_) (fun hc5 => ?_)
    · have hf := aIfT hf hc5
      refine aRun_ok hC hT 1 (cf' := (44, [(5, .int (((a0 / w1) / (10 : Int32)) - ((a0 / w1) / (10 : Int32)) / (10 : Int32) * (10 : Int32))), (4, .int ((a0 / w1) - (a0 / w1) / (10 : Int32) * (10 : Int32))), (3, .int (a0 / w1)), (2, .int w1), (0, .int a0), (1, .int a1)], [.int (0 : Int32)], LAY, S)) (by rfl) ?_
      refine aLocs [4, 3, 1, 0] (lv' := [(0, .int a0), (2, .int w1), (4, .int ((a0 / w1) - (a0 / w1) / (10 : Int32) * (10 : Int32))), (5, .int (((a0 / w1) / (10 : Int32)) - ((a0 / w1) / (10 : Int32)) / (10 : Int32) * (10 : Int32)))]) rfl ?_
      exact X0_turned_b44_ok hC hF a0 w1 ((a0 / w1) - (a0 / w1) / (10 : Int32) * (10 : Int32)) (((a0 / w1) / (10 : Int32)) - ((a0 / w1) / (10 : Int32)) / (10 : Int32) * (10 : Int32)) (0 : Int32) hf
    · have hf := aIfF hf hc5
      refine aRun_ok hC hT 2 (cf' := (44, [(5, .int (((a0 / w1) / (10 : Int32)) - ((a0 / w1) / (10 : Int32)) / (10 : Int32) * (10 : Int32))), (4, .int ((a0 / w1) - (a0 / w1) / (10 : Int32) * (10 : Int32))), (3, .int (a0 / w1)), (2, .int w1), (0, .int a0), (1, .int a1)], [.int (1 : Int32)], LAY, S)) (by rfl) ?_
      refine aLocs [4, 3, 1, 0] (lv' := [(0, .int a0), (2, .int w1), (4, .int ((a0 / w1) - (a0 / w1) / (10 : Int32) * (10 : Int32))), (5, .int (((a0 / w1) / (10 : Int32)) - ((a0 / w1) / (10 : Int32)) / (10 : Int32) * (10 : Int32)))]) rfl ?_
      exact X0_turned_b44_ok hC hF a0 w1 ((a0 / w1) - (a0 / w1) / (10 : Int32) * (10 : Int32)) (((a0 / w1) / (10 : Int32)) - ((a0 / w1) / (10 : Int32)) / (10 : Int32) * (10 : Int32)) (1 : Int32) hf
  · have hf := aIfF hf hc3
    refine aRun_ok hC hT 1 (cf' := (13, [(2, .int w1), (0, .int a0), (1, .int a1)], [.int (0 : Int32)], LAY, S)) (by rfl) ?_
    have e9 := Option.some.inj hf; subst e9
    exact aRetI hC hT hF rfl rfl
def X8_putTurns_14_b79 (N : Nat) (rec49 : Int32 → Int32 → Int32 → Int32 → Int32 → aSt → Option (aSt)) (v1 : Int32) (v2 : Int32) (v3 : Int32) (v4 : Int32) (v5 : Int32) (S : aSt) : Option (aSt) := (rec49 v1 v2 v3 v4 (v5 + (1 : Int32)) S)
set_option maxHeartbeats 4000000 in
set_option maxRecDepth 100000 in
theorem X8_putTurns_14_b79_ok {C : aC} {N : Nat} {rec49 : Int32 → Int32 → Int32 → Int32 → Int32 → aSt → Option (aSt)} (hC : aCx C M_X8_putTurns) {r : aSt} (hF : aFin C none LAY r 0 0) (hrec49 : ∀ (v1 : Int32) (v2 : Int32) (v3 : Int32) (v4 : Int32) (v5 : Int32) (S : aSt), rec49 v1 v2 v3 v4 v5 S = (some r) → aX C M_X8_putTurns 0 0 (49, [(0, .ref 14), (1, .int v1), (2, .int v2), (3, .int v3), (4, .int v4), (5, .int v5)], [], LAY, S)) (v1 : Int32) (v2 : Int32) (v3 : Int32) (v4 : Int32) (v5 : Int32) (S : aSt) (hf : X8_putTurns_14_b79 N rec49 v1 v2 v3 v4 v5 S = (some r)) : aX C M_X8_putTurns 0 0 (79, [(0, .ref 14), (1, .int v1), (2, .int v2), (3, .int v3), (4, .int v4), (5, .int v5)], [], LAY, S) := by
  have hT := ok_X8_putTurns
  unfold X8_putTurns_14_b79 at hf
  refine aRun_ok hC hT 2 (cf' := (49, [(5, .int (v5 + (1 : Int32))), (0, .ref 14), (1, .int v1), (2, .int v2), (3, .int v3), (4, .int v4)], [], LAY, S)) (by rfl) ?_
  refine aLocs [1, 2, 3, 4, 5, 0] (lv' := [(0, .ref 14), (1, .int v1), (2, .int v2), (3, .int v3), (4, .int v4), (5, .int (v5 + (1 : Int32)))]) rfl ?_
  exact hrec49 v1 v2 v3 v4 (v5 + (1 : Int32)) S hf
def X8_putTurns_14_b49 (N : Nat) (rec49 : Int32 → Int32 → Int32 → Int32 → Int32 → aSt → Option (aSt)) (v1 : Int32) (v2 : Int32) (v3 : Int32) (v4 : Int32) (v5 : Int32) (S : aSt) : Option (aSt) := (if v4 < v5 then some (S) else (Option.bind (X0_turned N v2 v5) (fun w5 => (if w5 ≤ v2 then (X8_putTurns_14_b79 N rec49 v1 v2 v3 v4 v5 S) else (aLet (X8_putSum_14 (0 : Int32) v1 w5 v3 S) (fun w8 => (X8_putTurns_14_b79 N rec49 v1 v2 v3 v4 v5 w8)))))))
set_option maxHeartbeats 4000000 in
set_option maxRecDepth 100000 in
theorem X8_putTurns_14_b49_ok {C : aC} {N : Nat} {rec49 : Int32 → Int32 → Int32 → Int32 → Int32 → aSt → Option (aSt)} (hC : aCx C M_X8_putTurns) {r : aSt} (hF : aFin C none LAY r 0 0) (hrec49 : ∀ (v1 : Int32) (v2 : Int32) (v3 : Int32) (v4 : Int32) (v5 : Int32) (S : aSt), rec49 v1 v2 v3 v4 v5 S = (some r) → aX C M_X8_putTurns 0 0 (49, [(0, .ref 14), (1, .int v1), (2, .int v2), (3, .int v3), (4, .int v4), (5, .int v5)], [], LAY, S)) (v1 : Int32) (v2 : Int32) (v3 : Int32) (v4 : Int32) (v5 : Int32) (S : aSt) (hf : X8_putTurns_14_b49 N rec49 v1 v2 v3 v4 v5 S = (some r)) : aX C M_X8_putTurns 0 0 (49, [(0, .ref 14), (1, .int v1), (2, .int v2), (3, .int v3), (4, .int v4), (5, .int v5)], [], LAY, S) := by
  have hT := ok_X8_putTurns
  unfold X8_putTurns_14_b49 at hf
  refine aRun_ok hC hT 2 (cf' := (53, [(0, .ref 14), (1, .int v1), (2, .int v2), (3, .int v3), (4, .int v4), (5, .int v5)], [.int v4, .int v5], LAY, S)) (by rfl) ?_
  refine aCmp_gt hC hT (tgt := 85) rfl (by decide) (fun hc4 => ?_) (fun hc4 => ?_)
  · have hf := aIfT hf hc4
    have e9 := Option.some.inj hf; subst e9
    exact aRetV hC hT hF rfl rfl
  · have hf := aIfF hf hc4
    refine aRun_ok hC hT 2 (cf' := (59, [(0, .ref 14), (1, .int v1), (2, .int v2), (3, .int v3), (4, .int v4), (5, .int v5)], [.int v5, .int v2], LAY, S)) (by rfl) ?_
    obtain ⟨w5, ew6, hf⟩ := aBnE hf
    refine aCallS (As := [.int v2, .int v5]) (rest := []) hC hT rfl k_X8_putTurns_125.1 _ k_X8_putTurns_125.2 (by rfl) (Nat.le_of_ble_eq_true rfl) (by decide) (J_X0_turned C.2.2.1 C.1 N v2 v5 S ew6) ?_
    refine aRun_ok hC hT 3 (cf' := (67, [(6, .int w5), (0, .ref 14), (1, .int v1), (2, .int v2), (3, .int v3), (4, .int v4), (5, .int v5)], [.int v2, .int w5], LAY, S)) (by rfl) ?_
    refine aCmp_le hC hT (tgt := 79) rfl (by decide) (fun hc7 => ?_) (fun hc7 => ?_)
    · have hf := aIfT hf hc7
      refine aLocs [1, 2, 3, 4, 5, 6] (lv' := [(0, .ref 14), (1, .int v1), (2, .int v2), (3, .int v3), (4, .int v4), (5, .int v5)]) rfl ?_
      exact X8_putTurns_14_b79_ok hC hF hrec49 v1 v2 v3 v4 v5 S hf
    · have hf := aIfF hf hc7
      refine aRun_ok hC hT 5 (cf' := (76, [(6, .int w5), (0, .ref 14), (1, .int v1), (2, .int v2), (3, .int v3), (4, .int v4), (5, .int v5)], [.int v3, .int w5, .int v1, .int (0 : Int32), .ref 14], LAY, S)) (by rfl) ?_
      obtain ⟨w8, ew9, hf⟩ := aLetE hf
      refine aCallV (b := 14) (As := [.int (0 : Int32), .int v1, .int w5, .int v3]) (rest := []) hC hT rfl k_X8_putTurns_88.1 _ _ k_X8_putTurns_88.2 (by decide) (by rfl) (by rfl) (by rfl) (Nat.le_of_ble_eq_true rfl) (by decide) (J_X8_putSum_14 C.2.2.1 C.1 (0 : Int32) v1 w5 v3 S ew9) ?_
      refine aLocs [1, 2, 3, 4, 5, 6] (lv' := [(0, .ref 14), (1, .int v1), (2, .int v2), (3, .int v3), (4, .int v4), (5, .int v5)]) rfl ?_
      exact X8_putTurns_14_b79_ok hC hF hrec49 v1 v2 v3 v4 v5 w8 hf
def X8_putTurns_14_l49 (N : Nat) : Nat → Int32 → Int32 → Int32 → Int32 → Int32 → aSt → Option (aSt)
  | 0 => fun _ _ _ _ _ _ => none
  | n + 1 => X8_putTurns_14_b49 N (X8_putTurns_14_l49 N n)
theorem X8_putTurns_14_l49_ok {C : aC} {N : Nat} (hC : aCx C M_X8_putTurns) {r : aSt} (hF : aFin C none LAY r 0 0) : ∀ (n : Nat) (v1 : Int32) (v2 : Int32) (v3 : Int32) (v4 : Int32) (v5 : Int32) (S : aSt), X8_putTurns_14_l49 N n v1 v2 v3 v4 v5 S = (some r) → aX C M_X8_putTurns 0 0 (49, [(0, .ref 14), (1, .int v1), (2, .int v2), (3, .int v3), (4, .int v4), (5, .int v5)], [], LAY, S)
  | 0, _, _, _, _, _, _,  h => nomatch (show (none : Option (aSt)) = some _ from h)
  | n + 1, v1, v2, v3, v4, v5, S,  h => X8_putTurns_14_b49_ok hC hF (fun v1 v2 v3 v4 v5 S h => X8_putTurns_14_l49_ok hC hF n v1 v2 v3 v4 v5 S h) v1 v2 v3 v4 v5 S h
def X8_putTurns_14_b46 (N : Nat) (v1 : Int32) (v2 : Int32) (v3 : Int32) (v4 : Int32) (S : aSt) : Option (aSt) := (X8_putTurns_14_l49 N N v1 v2 v3 v4 (0 : Int32) S)
set_option maxHeartbeats 4000000 in
set_option maxRecDepth 100000 in
theorem X8_putTurns_14_b46_ok {C : aC} {N : Nat} (hC : aCx C M_X8_putTurns) {r : aSt} (hF : aFin C none LAY r 0 0) (v1 : Int32) (v2 : Int32) (v3 : Int32) (v4 : Int32) (S : aSt) (hf : X8_putTurns_14_b46 N v1 v2 v3 v4 S = (some r)) : aX C M_X8_putTurns 0 0 (46, [(0, .ref 14), (1, .int v1), (2, .int v2), (3, .int v3), (4, .int v4)], [], LAY, S) := by
  have hT := ok_X8_putTurns
  unfold X8_putTurns_14_b46 at hf
  refine aRun_ok hC hT 2 (cf' := (49, [(5, .int (0 : Int32)), (0, .ref 14), (1, .int v1), (2, .int v2), (3, .int v3), (4, .int v4)], [], LAY, S)) (by rfl) ?_
  refine aLocs [1, 2, 3, 4, 5, 0] (lv' := [(0, .ref 14), (1, .int v1), (2, .int v2), (3, .int v3), (4, .int v4), (5, .int (0 : Int32))]) rfl ?_
  exact X8_putTurns_14_l49_ok hC hF N v1 v2 v3 v4 (0 : Int32) S hf
def X8_putTurns_14_b40 (N : Nat) (rec12 : Int32 → Int32 → Int32 → Int32 → Int32 → aSt → Option (aSt)) (v1 : Int32) (v2 : Int32) (v3 : Int32) (v4 : Int32) (v5 : Int32) (S : aSt) : Option (aSt) := (rec12 v1 v2 v3 v4 (v5 + ((-1) : Int32)) S)
set_option maxHeartbeats 4000000 in
set_option maxRecDepth 100000 in
theorem X8_putTurns_14_b40_ok {C : aC} {N : Nat} {rec12 : Int32 → Int32 → Int32 → Int32 → Int32 → aSt → Option (aSt)} (hC : aCx C M_X8_putTurns) {r : aSt} (hF : aFin C none LAY r 0 0) (hrec12 : ∀ (v1 : Int32) (v2 : Int32) (v3 : Int32) (v4 : Int32) (v5 : Int32) (S : aSt), rec12 v1 v2 v3 v4 v5 S = (some r) → aX C M_X8_putTurns 0 0 (12, [(0, .ref 14), (1, .int v1), (2, .int v2), (3, .int v3), (4, .int v4), (5, .int v5)], [], LAY, S)) (v1 : Int32) (v2 : Int32) (v3 : Int32) (v4 : Int32) (v5 : Int32) (S : aSt) (hf : X8_putTurns_14_b40 N rec12 v1 v2 v3 v4 v5 S = (some r)) : aX C M_X8_putTurns 0 0 (40, [(0, .ref 14), (1, .int v1), (2, .int v2), (3, .int v3), (4, .int v4), (5, .int v5)], [], LAY, S) := by
  have hT := ok_X8_putTurns
  unfold X8_putTurns_14_b40 at hf
  refine aRun_ok hC hT 2 (cf' := (12, [(5, .int (v5 + ((-1) : Int32))), (0, .ref 14), (1, .int v1), (2, .int v2), (3, .int v3), (4, .int v4)], [], LAY, S)) (by rfl) ?_
  refine aLocs [1, 2, 3, 4, 5, 0] (lv' := [(0, .ref 14), (1, .int v1), (2, .int v2), (3, .int v3), (4, .int v4), (5, .int (v5 + ((-1) : Int32)))]) rfl ?_
  exact hrec12 v1 v2 v3 v4 (v5 + ((-1) : Int32)) S hf
def X8_putTurns_14_b12 (N : Nat) (rec12 : Int32 → Int32 → Int32 → Int32 → Int32 → aSt → Option (aSt)) (v1 : Int32) (v2 : Int32) (v3 : Int32) (v4 : Int32) (v5 : Int32) (S : aSt) : Option (aSt) := (if v5 < (0 : Int32) then (X8_putTurns_14_b46 N v1 v2 v3 v4 S) else (Option.bind (X0_turned N v2 v5) (fun w10 => (if v2 ≤ w10 then (X8_putTurns_14_b40 N rec12 v1 v2 v3 v4 v5 S) else (aLet (X8_putSum_14 (0 : Int32) v1 w10 v3 S) (fun w13 => (X8_putTurns_14_b40 N rec12 v1 v2 v3 v4 v5 w13)))))))
set_option maxHeartbeats 4000000 in
set_option maxRecDepth 100000 in
theorem X8_putTurns_14_b12_ok {C : aC} {N : Nat} {rec12 : Int32 → Int32 → Int32 → Int32 → Int32 → aSt → Option (aSt)} (hC : aCx C M_X8_putTurns) {r : aSt} (hF : aFin C none LAY r 0 0) (hrec12 : ∀ (v1 : Int32) (v2 : Int32) (v3 : Int32) (v4 : Int32) (v5 : Int32) (S : aSt), rec12 v1 v2 v3 v4 v5 S = (some r) → aX C M_X8_putTurns 0 0 (12, [(0, .ref 14), (1, .int v1), (2, .int v2), (3, .int v3), (4, .int v4), (5, .int v5)], [], LAY, S)) (v1 : Int32) (v2 : Int32) (v3 : Int32) (v4 : Int32) (v5 : Int32) (S : aSt) (hf : X8_putTurns_14_b12 N rec12 v1 v2 v3 v4 v5 S = (some r)) : aX C M_X8_putTurns 0 0 (12, [(0, .ref 14), (1, .int v1), (2, .int v2), (3, .int v3), (4, .int v4), (5, .int v5)], [], LAY, S) := by
  have hT := ok_X8_putTurns
  unfold X8_putTurns_14_b12 at hf
  refine aRun_ok hC hT 1 (cf' := (14, [(0, .ref 14), (1, .int v1), (2, .int v2), (3, .int v3), (4, .int v4), (5, .int v5)], [.int v5], LAY, S)) (by rfl) ?_
  refine aIf_lt hC hT (tgt := 46) rfl (by decide) (fun hc3 => ?_) (fun hc3 => ?_)
  · have hf := aIfT hf hc3
    refine aLocs [0, 1, 2, 3, 4] (lv' := [(0, .ref 14), (1, .int v1), (2, .int v2), (3, .int v3), (4, .int v4)]) rfl ?_
    exact X8_putTurns_14_b46_ok hC hF v1 v2 v3 v4 S hf
  · have hf := aIfF hf hc3
    refine aRun_ok hC hT 2 (cf' := (20, [(0, .ref 14), (1, .int v1), (2, .int v2), (3, .int v3), (4, .int v4), (5, .int v5)], [.int v5, .int v2], LAY, S)) (by rfl) ?_
    obtain ⟨w10, ew11, hf⟩ := aBnE hf
    refine aCallS (As := [.int v2, .int v5]) (rest := []) hC hT rfl k_X8_putTurns_125.1 _ k_X8_putTurns_125.2 (by rfl) (Nat.le_of_ble_eq_true rfl) (by decide) (J_X0_turned C.2.2.1 C.1 N v2 v5 S ew11) ?_
    refine aRun_ok hC hT 3 (cf' := (28, [(6, .int w10), (0, .ref 14), (1, .int v1), (2, .int v2), (3, .int v3), (4, .int v4), (5, .int v5)], [.int v2, .int w10], LAY, S)) (by rfl) ?_
    refine aCmp_ge hC hT (tgt := 40) rfl (by decide) (fun hc12 => ?_) (fun hc12 => ?_)
    · have hf := aIfT hf hc12
      refine aLocs [1, 2, 3, 4, 5, 6] (lv' := [(0, .ref 14), (1, .int v1), (2, .int v2), (3, .int v3), (4, .int v4), (5, .int v5)]) rfl ?_
      exact X8_putTurns_14_b40_ok hC hF hrec12 v1 v2 v3 v4 v5 S hf
    · have hf := aIfF hf hc12
      refine aRun_ok hC hT 5 (cf' := (37, [(6, .int w10), (0, .ref 14), (1, .int v1), (2, .int v2), (3, .int v3), (4, .int v4), (5, .int v5)], [.int v3, .int w10, .int v1, .int (0 : Int32), .ref 14], LAY, S)) (by rfl) ?_
      obtain ⟨w13, ew14, hf⟩ := aLetE hf
      refine aCallV (b := 14) (As := [.int (0 : Int32), .int v1, .int w10, .int v3]) (rest := []) hC hT rfl k_X8_putTurns_88.1 _ _ k_X8_putTurns_88.2 (by decide) (by rfl) (by rfl) (by rfl) (Nat.le_of_ble_eq_true rfl) (by decide) (J_X8_putSum_14 C.2.2.1 C.1 (0 : Int32) v1 w10 v3 S ew14) ?_
      refine aLocs [1, 2, 3, 4, 5, 6] (lv' := [(0, .ref 14), (1, .int v1), (2, .int v2), (3, .int v3), (4, .int v4), (5, .int v5)]) rfl ?_
      exact X8_putTurns_14_b40_ok hC hF hrec12 v1 v2 v3 v4 v5 w13 hf
def X8_putTurns_14_l12 (N : Nat) : Nat → Int32 → Int32 → Int32 → Int32 → Int32 → aSt → Option (aSt)
  | 0 => fun _ _ _ _ _ _ => none
  | n + 1 => X8_putTurns_14_b12 N (X8_putTurns_14_l12 N n)
theorem X8_putTurns_14_l12_ok {C : aC} {N : Nat} (hC : aCx C M_X8_putTurns) {r : aSt} (hF : aFin C none LAY r 0 0) : ∀ (n : Nat) (v1 : Int32) (v2 : Int32) (v3 : Int32) (v4 : Int32) (v5 : Int32) (S : aSt), X8_putTurns_14_l12 N n v1 v2 v3 v4 v5 S = (some r) → aX C M_X8_putTurns 0 0 (12, [(0, .ref 14), (1, .int v1), (2, .int v2), (3, .int v3), (4, .int v4), (5, .int v5)], [], LAY, S)
  | 0, _, _, _, _, _, _,  h => nomatch (show (none : Option (aSt)) = some _ from h)
  | n + 1, v1, v2, v3, v4, v5, S,  h => X8_putTurns_14_b12_ok hC hF (fun v1 v2 v3 v4 v5 S h => X8_putTurns_14_l12_ok hC hF n v1 v2 v3 v4 v5 S h) v1 v2 v3 v4 v5 S h
def X8_putTurns_14 (N : Nat) (a1 : Int32) (a2 : Int32) (a3 : Int32) (S : aSt) : Option (aSt) := (Option.bind (X0_many N a2) (fun w1 => (X8_putTurns_14_l12 N N a1 a2 a3 (w1 - (2 : Int32)) (w1 - (2 : Int32)) S)))
set_option maxHeartbeats 4000000 in
set_option maxRecDepth 100000 in
theorem J_X8_putTurns_14 (l : Launch) (g : aWg) (N : Nat) (a1 : Int32) (a2 : Int32) (a3 : Int32) (S : aSt) {r : aSt} (hf : X8_putTurns_14 N a1 a2 a3 S = (some r)) : aJ l g yX8_putTurns M_X8_putTurns [.ref 14, .int a1, .int a2, .int a3] LAY S none LAY r 0 0 := by
  refine aJ_of (by decide +kernel) rfl (Nat.le_of_ble_eq_true rfl) (fun h => nomatch h) ?_
  intro C hg hl hC hz hF
  subst hg; subst hl
  have hT := ok_X8_putTurns
  unfold X8_putTurns_14 at hf
  show aX C M_X8_putTurns 0 0 (0, [(0, .ref 14), (1, .int a1), (2, .int a2), (3, .int a3)], [], LAY, S)
  refine aRun_ok hC hT 1 (cf' := (1, [(0, .ref 14), (1, .int a1), (2, .int a2), (3, .int a3)], [.int a2], LAY, S)) (by rfl) ?_
  obtain ⟨w1, ew2, hf⟩ := aBnE hf
  refine aCallS (As := [.int a2]) (rest := []) hC hT rfl k_X8_putTurns_122.1 _ k_X8_putTurns_122.2 (by rfl) (Nat.le_of_ble_eq_true rfl) (by decide) (J_X0_many C.2.2.1 C.1 N a2 S ew2) ?_
  refine aRun_ok hC hT 5 (cf' := (12, [(5, .int (w1 - (2 : Int32))), (4, .int (w1 - (2 : Int32))), (0, .ref 14), (1, .int a1), (2, .int a2), (3, .int a3)], [], LAY, S)) (by rfl) ?_
  refine aLocs [2, 3, 4, 5, 1, 0] (lv' := [(0, .ref 14), (1, .int a1), (2, .int a2), (3, .int a3), (4, .int (w1 - (2 : Int32))), (5, .int (w1 - (2 : Int32)))]) rfl ?_
  exact X8_putTurns_14_l12_ok hC hF N a1 a2 a3 (w1 - (2 : Int32)) (w1 - (2 : Int32)) S hf
def X8_build_14_b280 (N : Nat) (S : aSt) : Option (aSt) := (Option.bind (X8_chain_14 N S) (fun w11 => some (w11)))
set_option maxHeartbeats 4000000 in
set_option maxRecDepth 100000 in
theorem X8_build_14_b280_ok {C : aC} {N : Nat} (hC : aCx C M_X8_build) {r : aSt} (hF : aFin C none LAY r 0 0) (S : aSt) (hf : X8_build_14_b280 N S = (some r)) : aX C M_X8_build 0 0 (280, [(0, .ref 14)], [], LAY, S) := by
  have hT := ok_X8_build
  unfold X8_build_14_b280 at hf
  refine aRun_ok hC hT 1 (cf' := (281, [(0, .ref 14)], [.ref 14], LAY, S)) (by rfl) ?_
  obtain ⟨w11, ew12, hf⟩ := aBnE hf
  refine aCallV (b := 14) (As := []) (rest := []) hC hT rfl k_X8_build_116.1 _ _ k_X8_build_116.2 (by decide) (by rfl) (by rfl) (by rfl) (Nat.le_of_ble_eq_true rfl) (by decide) (J_X8_chain_14 C.2.2.1 C.1 N  S ew12) ?_
  have e9 := Option.some.inj hf; subst e9
  exact aRetV hC hT hF rfl rfl
def X8_build_14_b263 (N : Nat) (rec263 : Int32 → aSt → Option (aSt)) (v1 : Int32) (S : aSt) : Option (aSt) := (if (6 : Int32) ≤ v1 then (X8_build_14_b280 N S) else (Option.bind (X8_putCarries_14 N v1 S) (fun w13 => (rec263 (v1 + (1 : Int32)) w13))))
set_option maxHeartbeats 4000000 in
set_option maxRecDepth 100000 in
theorem X8_build_14_b263_ok {C : aC} {N : Nat} {rec263 : Int32 → aSt → Option (aSt)} (hC : aCx C M_X8_build) {r : aSt} (hF : aFin C none LAY r 0 0) (hrec263 : ∀ (v1 : Int32) (S : aSt), rec263 v1 S = (some r) → aX C M_X8_build 0 0 (263, [(0, .ref 14), (1, .int v1)], [], LAY, S)) (v1 : Int32) (S : aSt) (hf : X8_build_14_b263 N rec263 v1 S = (some r)) : aX C M_X8_build 0 0 (263, [(0, .ref 14), (1, .int v1)], [], LAY, S) := by
  have hT := ok_X8_build
  unfold X8_build_14_b263 at hf
  refine aRun_ok hC hT 2 (cf' := (266, [(0, .ref 14), (1, .int v1)], [.int (6 : Int32), .int v1], LAY, S)) (by rfl) ?_
  refine aCmp_ge hC hT (tgt := 280) rfl (by decide) (fun hc10 => ?_) (fun hc10 => ?_)
  · have hf := aIfT hf hc10
    refine aLocs [0] (lv' := [(0, .ref 14)]) rfl ?_
    exact X8_build_14_b280_ok hC hF S hf
  · have hf := aIfF hf hc10
    refine aRun_ok hC hT 2 (cf' := (271, [(0, .ref 14), (1, .int v1)], [.int v1, .ref 14], LAY, S)) (by rfl) ?_
    obtain ⟨w13, ew14, hf⟩ := aBnE hf
    refine aCallV (b := 14) (As := [.int v1]) (rest := []) hC hT rfl k_X8_build_113.1 _ _ k_X8_build_113.2 (by decide) (by rfl) (by rfl) (by rfl) (Nat.le_of_ble_eq_true rfl) (by decide) (J_X8_putCarries_14 C.2.2.1 C.1 N v1 S ew14) ?_
    refine aRun_ok hC hT 2 (cf' := (263, [(1, .int (v1 + (1 : Int32))), (0, .ref 14)], [], LAY, w13)) (by rfl) ?_
    refine aLocs [1, 0] (lv' := [(0, .ref 14), (1, .int (v1 + (1 : Int32)))]) rfl ?_
    exact hrec263 (v1 + (1 : Int32)) w13 hf
def X8_build_14_l263 (N : Nat) : Nat → Int32 → aSt → Option (aSt)
  | 0 => fun _ _ => none
  | n + 1 => X8_build_14_b263 N (X8_build_14_l263 N n)
theorem X8_build_14_l263_ok {C : aC} {N : Nat} (hC : aCx C M_X8_build) {r : aSt} (hF : aFin C none LAY r 0 0) : ∀ (n : Nat) (v1 : Int32) (S : aSt), X8_build_14_l263 N n v1 S = (some r) → aX C M_X8_build 0 0 (263, [(0, .ref 14), (1, .int v1)], [], LAY, S)
  | 0, _, _,  h => nomatch (show (none : Option (aSt)) = some _ from h)
  | n + 1, v1, S,  h => X8_build_14_b263_ok hC hF (fun v1 S h => X8_build_14_l263_ok hC hF n v1 S h) v1 S h
def X8_build_14_b249 (N : Nat) (S : aSt) : Option (aSt) := (Option.bind (X2_outOf_8 N ((-1) : Int32) S) (fun w6 => (aLet (X8_putMissed_14 w6 S) (fun w8 => (X8_build_14_l263 N N (0 : Int32) w8)))))
set_option maxHeartbeats 4000000 in
set_option maxRecDepth 100000 in
theorem X8_build_14_b249_ok {C : aC} {N : Nat} (hC : aCx C M_X8_build) {r : aSt} (hF : aFin C none LAY r 0 0) (S : aSt) (hf : X8_build_14_b249 N S = (some r)) : aX C M_X8_build 0 0 (249, [(0, .ref 14)], [], LAY, S) := by
  have hT := ok_X8_build
  unfold X8_build_14_b249 at hf
  refine aRun_ok hC hT 4 (cf' := (255, [(0, .ref 14)], [.int ((-1) : Int32), .ref 8, .ref 14], LAY, S)) (by rfl) ?_
  obtain ⟨w6, ew7, hf⟩ := aBnE hf
  refine aCallV (b := 8) (As := [.int ((-1) : Int32)]) (rest := [.ref 14]) hC hT rfl k_X8_build_106.1 _ _ k_X8_build_106.2 (by decide) (by rfl) (by rfl) (by rfl) (Nat.le_of_ble_eq_true rfl) (by decide) (J_X2_outOf_8 C.2.2.1 C.1 N ((-1) : Int32) S ew7) ?_
  obtain ⟨w8, ew9, hf⟩ := aLetE hf
  refine aCallV (b := 14) (As := [.int w6]) (rest := []) hC hT rfl k_X8_build_109.1 _ _ k_X8_build_109.2 (by decide) (by rfl) (by rfl) (by rfl) (Nat.le_of_ble_eq_true rfl) (by decide) (J_X8_putMissed_14 C.2.2.1 C.1 w6 S ew9) ?_
  refine aRun_ok hC hT 2 (cf' := (263, [(1, .int (0 : Int32)), (0, .ref 14)], [], LAY, w8)) (by rfl) ?_
  refine aLocs [1, 0] (lv' := [(0, .ref 14), (1, .int (0 : Int32))]) rfl ?_
  exact X8_build_14_l263_ok hC hF N (0 : Int32) w8 hf
def X8_build_14_b243 (N : Nat) (rec199 : Int32 → aSt → Option (aSt)) (v1 : Int32) (S : aSt) : Option (aSt) := (rec199 (v1 + (1 : Int32)) S)
set_option maxHeartbeats 4000000 in
set_option maxRecDepth 100000 in
theorem X8_build_14_b243_ok {C : aC} {N : Nat} {rec199 : Int32 → aSt → Option (aSt)} (hC : aCx C M_X8_build) {r : aSt} (hF : aFin C none LAY r 0 0) (hrec199 : ∀ (v1 : Int32) (S : aSt), rec199 v1 S = (some r) → aX C M_X8_build 0 0 (199, [(0, .ref 14), (1, .int v1)], [], LAY, S)) (v1 : Int32) (S : aSt) (hf : X8_build_14_b243 N rec199 v1 S = (some r)) : aX C M_X8_build 0 0 (243, [(0, .ref 14), (1, .int v1)], [], LAY, S) := by
  have hT := ok_X8_build
  unfold X8_build_14_b243 at hf
  refine aRun_ok hC hT 2 (cf' := (199, [(1, .int (v1 + (1 : Int32))), (0, .ref 14)], [], LAY, S)) (by rfl) ?_
  refine aLocs [1, 0] (lv' := [(0, .ref 14), (1, .int (v1 + (1 : Int32)))]) rfl ?_
  exact hrec199 (v1 + (1 : Int32)) S hf
def X8_build_14_b199 (N : Nat) (rec199 : Int32 → aSt → Option (aSt)) (v1 : Int32) (S : aSt) : Option (aSt) := (if (S.1 8 0) ≤ v1 then (X8_build_14_b249 N S) else (Option.bind (X2_hasTwinAhead_8 N v1 S) (fun w15 => (if w15 = (0 : Int32) then (X8_build_14_b243 N rec199 v1 S) else (aLet (X2_outBy_8 v1 S) (fun w18 => (aLet (X8_oddsAt_14 v1 (4 : Int32) S) (fun w20 => (aLet (X8_put_14 (4 : Int32) v1 (0 : Int32) (-w18) w20 S) (fun w22 => (X8_build_14_b243 N rec199 v1 w22)))))))))))
set_option maxHeartbeats 4000000 in
set_option maxRecDepth 100000 in
theorem X8_build_14_b199_ok {C : aC} {N : Nat} {rec199 : Int32 → aSt → Option (aSt)} (hC : aCx C M_X8_build) {r : aSt} (hF : aFin C none LAY r 0 0) (hrec199 : ∀ (v1 : Int32) (S : aSt), rec199 v1 S = (some r) → aX C M_X8_build 0 0 (199, [(0, .ref 14), (1, .int v1)], [], LAY, S)) (v1 : Int32) (S : aSt) (hf : X8_build_14_b199 N rec199 v1 S = (some r)) : aX C M_X8_build 0 0 (199, [(0, .ref 14), (1, .int v1)], [], LAY, S) := by
  have hT := ok_X8_build
  unfold X8_build_14_b199 at hf
  refine aRun_ok hC hT 4 (cf' := (207, [(0, .ref 14), (1, .int v1)], [.int (S.1 8 0), .int v1], LAY, S)) (by rfl) ?_
  refine aCmp_ge hC hT (tgt := 249) rfl (by decide) (fun hc5 => ?_) (fun hc5 => ?_)
  · have hf := aIfT hf hc5
    refine aLocs [0] (lv' := [(0, .ref 14)]) rfl ?_
    exact X8_build_14_b249_ok hC hF S hf
  · have hf := aIfF hf hc5
    refine aRun_ok hC hT 3 (cf' := (215, [(0, .ref 14), (1, .int v1)], [.int v1, .ref 8], LAY, S)) (by rfl) ?_
    obtain ⟨w15, ew16, hf⟩ := aBnE hf
    refine aCallV (b := 8) (As := [.int v1]) (rest := []) hC hT rfl k_X8_build_102.1 _ _ k_X8_build_102.2 (by decide) (by rfl) (by rfl) (by rfl) (Nat.le_of_ble_eq_true rfl) (by decide) (J_X2_hasTwinAhead_8 C.2.2.1 C.1 N v1 S ew16) ?_
    refine aIf_eq hC hT (tgt := 243) rfl (by decide) (fun hc17 => ?_) (fun hc17 => ?_)
    · have hf := aIfT hf hc17
      exact X8_build_14_b243_ok hC hF hrec199 v1 S hf
    · have hf := aIfF hf hc17
      refine aRun_ok hC hT 7 (cf' := (230, [(0, .ref 14), (1, .int v1)], [.int v1, .ref 8, .int (0 : Int32), .int v1, .int (4 : Int32), .ref 14], LAY, S)) (by rfl) ?_
      obtain ⟨w18, ew19, hf⟩ := aLetE hf
      refine aCallV (b := 8) (As := [.int v1]) (rest := [.int (0 : Int32), .int v1, .int (4 : Int32), .ref 14]) hC hT rfl k_X8_build_95.1 _ _ k_X8_build_95.2 (by decide) (by rfl) (by rfl) (by rfl) (Nat.le_of_ble_eq_true rfl) (by decide) (J_X2_outBy_8 C.2.2.1 C.1 v1 S ew19) ?_
      refine aRun_ok hC hT 4 (cf' := (237, [(0, .ref 14), (1, .int v1)], [.int (4 : Int32), .int v1, .ref 14, .int (-w18), .int (0 : Int32), .int v1, .int (4 : Int32), .ref 14], LAY, S)) (by rfl) ?_
      obtain ⟨w20, ew21, hf⟩ := aLetE hf
      refine aCallV (b := 14) (As := [.int v1, .int (4 : Int32)]) (rest := [.int (-w18), .int (0 : Int32), .int v1, .int (4 : Int32), .ref 14]) hC hT rfl k_X8_build_73.1 _ _ k_X8_build_73.2 (by decide) (by rfl) (by rfl) (by rfl) (Nat.le_of_ble_eq_true rfl) (by decide) (J_X8_oddsAt_14 C.2.2.1 C.1 v1 (4 : Int32) S ew21) ?_
      obtain ⟨w22, ew23, hf⟩ := aLetE hf
      refine aCallV (b := 14) (As := [.int (4 : Int32), .int v1, .int (0 : Int32), .int (-w18), .int w20]) (rest := []) hC hT rfl k_X8_build_98.1 _ _ k_X8_build_98.2 (by decide) (by rfl) (by rfl) (by rfl) (Nat.le_of_ble_eq_true rfl) (by decide) (J_X8_put_14 C.2.2.1 C.1 (4 : Int32) v1 (0 : Int32) (-w18) w20 S ew23) ?_
      exact X8_build_14_b243_ok hC hF hrec199 v1 w22 hf
def X8_build_14_l199 (N : Nat) : Nat → Int32 → aSt → Option (aSt)
  | 0 => fun _ _ => none
  | n + 1 => X8_build_14_b199 N (X8_build_14_l199 N n)
theorem X8_build_14_l199_ok {C : aC} {N : Nat} (hC : aCx C M_X8_build) {r : aSt} (hF : aFin C none LAY r 0 0) : ∀ (n : Nat) (v1 : Int32) (S : aSt), X8_build_14_l199 N n v1 S = (some r) → aX C M_X8_build 0 0 (199, [(0, .ref 14), (1, .int v1)], [], LAY, S)
  | 0, _, _,  h => nomatch (show (none : Option (aSt)) = some _ from h)
  | n + 1, v1, S,  h => X8_build_14_b199_ok hC hF (fun v1 S h => X8_build_14_l199_ok hC hF n v1 S h) v1 S h
def X8_build_14_b197 (N : Nat) (S : aSt) : Option (aSt) := (X8_build_14_l199 N N (0 : Int32) S)
set_option maxHeartbeats 4000000 in
set_option maxRecDepth 100000 in
theorem X8_build_14_b197_ok {C : aC} {N : Nat} (hC : aCx C M_X8_build) {r : aSt} (hF : aFin C none LAY r 0 0) (S : aSt) (hf : X8_build_14_b197 N S = (some r)) : aX C M_X8_build 0 0 (197, [(0, .ref 14)], [], LAY, S) := by
  have hT := ok_X8_build
  unfold X8_build_14_b197 at hf
  refine aRun_ok hC hT 2 (cf' := (199, [(1, .int (0 : Int32)), (0, .ref 14)], [], LAY, S)) (by rfl) ?_
  refine aLocs [1, 0] (lv' := [(0, .ref 14), (1, .int (0 : Int32))]) rfl ?_
  exact X8_build_14_l199_ok hC hF N (0 : Int32) S hf
def X8_build_14_b146 (N : Nat) (rec146 : Int32 → aSt → Option (aSt)) (v1 : Int32) (S : aSt) : Option (aSt) := (if (S.1 8 0) ≤ v1 then (X8_build_14_b197 N S) else (aLet (X2_told_8 v1 (1 : Int32) S) (fun w24 => (aLet (X2_outBy_8 v1 S) (fun w26 => (aLet (X8_oddsAt_14 v1 (3 : Int32) S) (fun w28 => (aLet (X8_put_14 (3 : Int32) v1 w24 (((-2) : Int32) * w26) w28 S) (fun w30 => (rec146 (v1 + (1 : Int32)) w30))))))))))
set_option maxHeartbeats 4000000 in
set_option maxRecDepth 100000 in
theorem X8_build_14_b146_ok {C : aC} {N : Nat} {rec146 : Int32 → aSt → Option (aSt)} (hC : aCx C M_X8_build) {r : aSt} (hF : aFin C none LAY r 0 0) (hrec146 : ∀ (v1 : Int32) (S : aSt), rec146 v1 S = (some r) → aX C M_X8_build 0 0 (146, [(0, .ref 14), (1, .int v1)], [], LAY, S)) (v1 : Int32) (S : aSt) (hf : X8_build_14_b146 N rec146 v1 S = (some r)) : aX C M_X8_build 0 0 (146, [(0, .ref 14), (1, .int v1)], [], LAY, S) := by
  have hT := ok_X8_build
  unfold X8_build_14_b146 at hf
  refine aRun_ok hC hT 4 (cf' := (154, [(0, .ref 14), (1, .int v1)], [.int (S.1 8 0), .int v1], LAY, S)) (by rfl) ?_
  refine aCmp_ge hC hT (tgt := 197) rfl (by decide) (fun hc4 => ?_) (fun hc4 => ?_)
  · have hf := aIfT hf hc4
    refine aLocs [0] (lv' := [(0, .ref 14)]) rfl ?_
    exact X8_build_14_b197_ok hC hF S hf
  · have hf := aIfF hf hc4
    refine aRun_ok hC hT 4 (cf' := (163, [(0, .ref 14), (1, .int v1)], [.int (1 : Int32), .int v1, .ref 8], LAY, S)) (by rfl) ?_
    obtain ⟨w24, ew25, hf⟩ := aLetE hf
    refine aCallV (b := 8) (As := [.int v1, .int (1 : Int32)]) (rest := []) hC hT rfl k_X8_build_57.1 _ _ k_X8_build_57.2 (by decide) (by rfl) (by rfl) (by rfl) (Nat.le_of_ble_eq_true rfl) (by decide) (J_X2_told_8 C.2.2.1 C.1 v1 (1 : Int32) S ew25) ?_
    refine aRun_ok hC hT 9 (cf' := (178, [(2, .int w24), (0, .ref 14), (1, .int v1)], [.int v1, .ref 8, .int ((-2) : Int32), .int w24, .int v1, .int (3 : Int32), .ref 14], LAY, S)) (by rfl) ?_
    obtain ⟨w26, ew27, hf⟩ := aLetE hf
    refine aCallV (b := 8) (As := [.int v1]) (rest := [.int ((-2) : Int32), .int w24, .int v1, .int (3 : Int32), .ref 14]) hC hT rfl k_X8_build_95.1 _ _ k_X8_build_95.2 (by decide) (by rfl) (by rfl) (by rfl) (Nat.le_of_ble_eq_true rfl) (by decide) (J_X2_outBy_8 C.2.2.1 C.1 v1 S ew27) ?_
    refine aRun_ok hC hT 4 (cf' := (185, [(2, .int w24), (0, .ref 14), (1, .int v1)], [.int (3 : Int32), .int v1, .ref 14, .int (((-2) : Int32) * w26), .int w24, .int v1, .int (3 : Int32), .ref 14], LAY, S)) (by rfl) ?_
    obtain ⟨w28, ew29, hf⟩ := aLetE hf
    refine aCallV (b := 14) (As := [.int v1, .int (3 : Int32)]) (rest := [.int (((-2) : Int32) * w26), .int w24, .int v1, .int (3 : Int32), .ref 14]) hC hT rfl k_X8_build_73.1 _ _ k_X8_build_73.2 (by decide) (by rfl) (by rfl) (by rfl) (Nat.le_of_ble_eq_true rfl) (by decide) (J_X8_oddsAt_14 C.2.2.1 C.1 v1 (3 : Int32) S ew29) ?_
    obtain ⟨w30, ew31, hf⟩ := aLetE hf
    refine aCallV (b := 14) (As := [.int (3 : Int32), .int v1, .int w24, .int (((-2) : Int32) * w26), .int w28]) (rest := []) hC hT rfl k_X8_build_98.1 _ _ k_X8_build_98.2 (by decide) (by rfl) (by rfl) (by rfl) (Nat.le_of_ble_eq_true rfl) (by decide) (J_X8_put_14 C.2.2.1 C.1 (3 : Int32) v1 w24 (((-2) : Int32) * w26) w28 S ew31) ?_
    refine aRun_ok hC hT 2 (cf' := (146, [(1, .int (v1 + (1 : Int32))), (2, .int w24), (0, .ref 14)], [], LAY, w30)) (by rfl) ?_
    refine aLocs [2, 0] (lv' := [(0, .ref 14), (1, .int (v1 + (1 : Int32)))]) rfl ?_
    exact hrec146 (v1 + (1 : Int32)) w30 hf
def X8_build_14_l146 (N : Nat) : Nat → Int32 → aSt → Option (aSt)
  | 0 => fun _ _ => none
  | n + 1 => X8_build_14_b146 N (X8_build_14_l146 N n)
theorem X8_build_14_l146_ok {C : aC} {N : Nat} (hC : aCx C M_X8_build) {r : aSt} (hF : aFin C none LAY r 0 0) : ∀ (n : Nat) (v1 : Int32) (S : aSt), X8_build_14_l146 N n v1 S = (some r) → aX C M_X8_build 0 0 (146, [(0, .ref 14), (1, .int v1)], [], LAY, S)
  | 0, _, _,  h => nomatch (show (none : Option (aSt)) = some _ from h)
  | n + 1, v1, S,  h => X8_build_14_b146_ok hC hF (fun v1 S h => X8_build_14_l146_ok hC hF n v1 S h) v1 S h
def X8_build_14_b144 (N : Nat) (S : aSt) : Option (aSt) := (X8_build_14_l146 N N (0 : Int32) S)
set_option maxHeartbeats 4000000 in
set_option maxRecDepth 100000 in
theorem X8_build_14_b144_ok {C : aC} {N : Nat} (hC : aCx C M_X8_build) {r : aSt} (hF : aFin C none LAY r 0 0) (S : aSt) (hf : X8_build_14_b144 N S = (some r)) : aX C M_X8_build 0 0 (144, [(0, .ref 14)], [], LAY, S) := by
  have hT := ok_X8_build
  unfold X8_build_14_b144 at hf
  refine aRun_ok hC hT 2 (cf' := (146, [(1, .int (0 : Int32)), (0, .ref 14)], [], LAY, S)) (by rfl) ?_
  refine aLocs [1, 0] (lv' := [(0, .ref 14), (1, .int (0 : Int32))]) rfl ?_
  exact X8_build_14_l146_ok hC hF N (0 : Int32) S hf
def X8_build_14_b85 (N : Nat) (rec85 : Int32 → aSt → Option (aSt)) (v1 : Int32) (S : aSt) : Option (aSt) := (if (S.1 8 0) ≤ v1 then (X8_build_14_b144 N S) else (aLet (X2_told_8 v1 (1 : Int32) S) (fun w32 => (aLet (X0_shorter w32) (fun w34 => (aLet (X8_oddsAt_14 v1 (2 : Int32) S) (fun w36 => (aLet (X8_putSum_14 (2 : Int32) v1 w34 w36 S) (fun w38 => (aLet (X0_longer w32) (fun w40 => (aLet (X8_oddsAt_14 v1 (2 : Int32) w38) (fun w42 => (aLet (X8_putSum_14 (2 : Int32) v1 w40 w42 w38) (fun w44 => (rec85 (v1 + (1 : Int32)) w44))))))))))))))))
set_option maxHeartbeats 4000000 in
set_option maxRecDepth 100000 in
theorem X8_build_14_b85_ok {C : aC} {N : Nat} {rec85 : Int32 → aSt → Option (aSt)} (hC : aCx C M_X8_build) {r : aSt} (hF : aFin C none LAY r 0 0) (hrec85 : ∀ (v1 : Int32) (S : aSt), rec85 v1 S = (some r) → aX C M_X8_build 0 0 (85, [(0, .ref 14), (1, .int v1)], [], LAY, S)) (v1 : Int32) (S : aSt) (hf : X8_build_14_b85 N rec85 v1 S = (some r)) : aX C M_X8_build 0 0 (85, [(0, .ref 14), (1, .int v1)], [], LAY, S) := by
  have hT := ok_X8_build
  unfold X8_build_14_b85 at hf
  refine aRun_ok hC hT 4 (cf' := (93, [(0, .ref 14), (1, .int v1)], [.int (S.1 8 0), .int v1], LAY, S)) (by rfl) ?_
  refine aCmp_ge hC hT (tgt := 144) rfl (by decide) (fun hc3 => ?_) (fun hc3 => ?_)
  · have hf := aIfT hf hc3
    refine aLocs [0] (lv' := [(0, .ref 14)]) rfl ?_
    exact X8_build_14_b144_ok hC hF S hf
  · have hf := aIfF hf hc3
    refine aRun_ok hC hT 4 (cf' := (102, [(0, .ref 14), (1, .int v1)], [.int (1 : Int32), .int v1, .ref 8], LAY, S)) (by rfl) ?_
    obtain ⟨w32, ew33, hf⟩ := aLetE hf
    refine aCallV (b := 8) (As := [.int v1, .int (1 : Int32)]) (rest := []) hC hT rfl k_X8_build_57.1 _ _ k_X8_build_57.2 (by decide) (by rfl) (by rfl) (by rfl) (Nat.le_of_ble_eq_true rfl) (by decide) (J_X2_told_8 C.2.2.1 C.1 v1 (1 : Int32) S ew33) ?_
    refine aRun_ok hC hT 5 (cf' := (110, [(2, .int w32), (0, .ref 14), (1, .int v1)], [.int w32, .int v1, .int (2 : Int32), .ref 14], LAY, S)) (by rfl) ?_
    obtain ⟨w34, ew35, hf⟩ := aLetE hf
    refine aCallS (As := [.int w32]) (rest := [.int v1, .int (2 : Int32), .ref 14]) hC hT rfl k_X8_build_83.1 _ k_X8_build_83.2 (by rfl) (Nat.le_of_ble_eq_true rfl) (by decide) (J_X0_shorter C.2.2.1 C.1 w32 S ew35) ?_
    refine aRun_ok hC hT 3 (cf' := (116, [(2, .int w32), (0, .ref 14), (1, .int v1)], [.int (2 : Int32), .int v1, .ref 14, .int w34, .int v1, .int (2 : Int32), .ref 14], LAY, S)) (by rfl) ?_
    obtain ⟨w36, ew37, hf⟩ := aLetE hf
    refine aCallV (b := 14) (As := [.int v1, .int (2 : Int32)]) (rest := [.int w34, .int v1, .int (2 : Int32), .ref 14]) hC hT rfl k_X8_build_73.1 _ _ k_X8_build_73.2 (by decide) (by rfl) (by rfl) (by rfl) (Nat.le_of_ble_eq_true rfl) (by decide) (J_X8_oddsAt_14 C.2.2.1 C.1 v1 (2 : Int32) S ew37) ?_
    obtain ⟨w38, ew39, hf⟩ := aLetE hf
    refine aCallV (b := 14) (As := [.int (2 : Int32), .int v1, .int w34, .int w36]) (rest := []) hC hT rfl k_X8_build_88.1 _ _ k_X8_build_88.2 (by decide) (by rfl) (by rfl) (by rfl) (Nat.le_of_ble_eq_true rfl) (by decide) (J_X8_putSum_14 C.2.2.1 C.1 (2 : Int32) v1 w34 w36 S ew39) ?_
    refine aRun_ok hC hT 4 (cf' := (126, [(2, .int w32), (0, .ref 14), (1, .int v1)], [.int w32, .int v1, .int (2 : Int32), .ref 14], LAY, w38)) (by rfl) ?_
    obtain ⟨w40, ew41, hf⟩ := aLetE hf
    refine aCallS (As := [.int w32]) (rest := [.int v1, .int (2 : Int32), .ref 14]) hC hT rfl k_X8_build_92.1 _ k_X8_build_92.2 (by rfl) (Nat.le_of_ble_eq_true rfl) (by decide) (J_X0_longer C.2.2.1 C.1 w32 w38 ew41) ?_
    refine aRun_ok hC hT 3 (cf' := (132, [(2, .int w32), (0, .ref 14), (1, .int v1)], [.int (2 : Int32), .int v1, .ref 14, .int w40, .int v1, .int (2 : Int32), .ref 14], LAY, w38)) (by rfl) ?_
    obtain ⟨w42, ew43, hf⟩ := aLetE hf
    refine aCallV (b := 14) (As := [.int v1, .int (2 : Int32)]) (rest := [.int w40, .int v1, .int (2 : Int32), .ref 14]) hC hT rfl k_X8_build_73.1 _ _ k_X8_build_73.2 (by decide) (by rfl) (by rfl) (by rfl) (Nat.le_of_ble_eq_true rfl) (by decide) (J_X8_oddsAt_14 C.2.2.1 C.1 v1 (2 : Int32) w38 ew43) ?_
    obtain ⟨w44, ew45, hf⟩ := aLetE hf
    refine aCallV (b := 14) (As := [.int (2 : Int32), .int v1, .int w40, .int w42]) (rest := []) hC hT rfl k_X8_build_88.1 _ _ k_X8_build_88.2 (by decide) (by rfl) (by rfl) (by rfl) (Nat.le_of_ble_eq_true rfl) (by decide) (J_X8_putSum_14 C.2.2.1 C.1 (2 : Int32) v1 w40 w42 w38 ew45) ?_
    refine aRun_ok hC hT 2 (cf' := (85, [(1, .int (v1 + (1 : Int32))), (2, .int w32), (0, .ref 14)], [], LAY, w44)) (by rfl) ?_
    refine aLocs [2, 0] (lv' := [(0, .ref 14), (1, .int (v1 + (1 : Int32)))]) rfl ?_
    exact hrec85 (v1 + (1 : Int32)) w44 hf
def X8_build_14_l85 (N : Nat) : Nat → Int32 → aSt → Option (aSt)
  | 0 => fun _ _ => none
  | n + 1 => X8_build_14_b85 N (X8_build_14_l85 N n)
theorem X8_build_14_l85_ok {C : aC} {N : Nat} (hC : aCx C M_X8_build) {r : aSt} (hF : aFin C none LAY r 0 0) : ∀ (n : Nat) (v1 : Int32) (S : aSt), X8_build_14_l85 N n v1 S = (some r) → aX C M_X8_build 0 0 (85, [(0, .ref 14), (1, .int v1)], [], LAY, S)
  | 0, _, _,  h => nomatch (show (none : Option (aSt)) = some _ from h)
  | n + 1, v1, S,  h => X8_build_14_b85_ok hC hF (fun v1 S h => X8_build_14_l85_ok hC hF n v1 S h) v1 S h
def X8_build_14_b83 (N : Nat) (S : aSt) : Option (aSt) := (X8_build_14_l85 N N (0 : Int32) S)
set_option maxHeartbeats 4000000 in
set_option maxRecDepth 100000 in
theorem X8_build_14_b83_ok {C : aC} {N : Nat} (hC : aCx C M_X8_build) {r : aSt} (hF : aFin C none LAY r 0 0) (S : aSt) (hf : X8_build_14_b83 N S = (some r)) : aX C M_X8_build 0 0 (83, [(0, .ref 14)], [], LAY, S) := by
  have hT := ok_X8_build
  unfold X8_build_14_b83 at hf
  refine aRun_ok hC hT 2 (cf' := (85, [(1, .int (0 : Int32)), (0, .ref 14)], [], LAY, S)) (by rfl) ?_
  refine aLocs [1, 0] (lv' := [(0, .ref 14), (1, .int (0 : Int32))]) rfl ?_
  exact X8_build_14_l85_ok hC hF N (0 : Int32) S hf
def X8_build_14_b46 (N : Nat) (rec46 : Int32 → aSt → Option (aSt)) (v1 : Int32) (S : aSt) : Option (aSt) := (if (S.1 8 0) ≤ v1 then (X8_build_14_b83 N S) else (aLet (X2_told_8 v1 (1 : Int32) S) (fun w46 => (aLet (X8_oddsAt_14 v1 (1 : Int32) S) (fun w48 => (Option.bind (X8_putFigures_14 N v1 w46 w48 S) (fun w50 => (rec46 (v1 + (1 : Int32)) w50))))))))
set_option maxHeartbeats 4000000 in
set_option maxRecDepth 100000 in
theorem X8_build_14_b46_ok {C : aC} {N : Nat} {rec46 : Int32 → aSt → Option (aSt)} (hC : aCx C M_X8_build) {r : aSt} (hF : aFin C none LAY r 0 0) (hrec46 : ∀ (v1 : Int32) (S : aSt), rec46 v1 S = (some r) → aX C M_X8_build 0 0 (46, [(0, .ref 14), (1, .int v1)], [], LAY, S)) (v1 : Int32) (S : aSt) (hf : X8_build_14_b46 N rec46 v1 S = (some r)) : aX C M_X8_build 0 0 (46, [(0, .ref 14), (1, .int v1)], [], LAY, S) := by
  have hT := ok_X8_build
  unfold X8_build_14_b46 at hf
  refine aRun_ok hC hT 4 (cf' := (54, [(0, .ref 14), (1, .int v1)], [.int (S.1 8 0), .int v1], LAY, S)) (by rfl) ?_
  refine aCmp_ge hC hT (tgt := 83) rfl (by decide) (fun hc2 => ?_) (fun hc2 => ?_)
  · have hf := aIfT hf hc2
    refine aLocs [0] (lv' := [(0, .ref 14)]) rfl ?_
    exact X8_build_14_b83_ok hC hF S hf
  · have hf := aIfF hf hc2
    refine aRun_ok hC hT 6 (cf' := (65, [(0, .ref 14), (1, .int v1)], [.int (1 : Int32), .int v1, .ref 8, .int v1, .ref 14], LAY, S)) (by rfl) ?_
    obtain ⟨w46, ew47, hf⟩ := aLetE hf
    refine aCallV (b := 8) (As := [.int v1, .int (1 : Int32)]) (rest := [.int v1, .ref 14]) hC hT rfl k_X8_build_57.1 _ _ k_X8_build_57.2 (by decide) (by rfl) (by rfl) (by rfl) (Nat.le_of_ble_eq_true rfl) (by decide) (J_X2_told_8 C.2.2.1 C.1 v1 (1 : Int32) S ew47) ?_
    refine aRun_ok hC hT 3 (cf' := (71, [(0, .ref 14), (1, .int v1)], [.int (1 : Int32), .int v1, .ref 14, .int w46, .int v1, .ref 14], LAY, S)) (by rfl) ?_
    obtain ⟨w48, ew49, hf⟩ := aLetE hf
    refine aCallV (b := 14) (As := [.int v1, .int (1 : Int32)]) (rest := [.int w46, .int v1, .ref 14]) hC hT rfl k_X8_build_73.1 _ _ k_X8_build_73.2 (by decide) (by rfl) (by rfl) (by rfl) (Nat.le_of_ble_eq_true rfl) (by decide) (J_X8_oddsAt_14 C.2.2.1 C.1 v1 (1 : Int32) S ew49) ?_
    obtain ⟨w50, ew51, hf⟩ := aBnE hf
    refine aCallV (b := 14) (As := [.int v1, .int w46, .int w48]) (rest := []) hC hT rfl k_X8_build_80.1 _ _ k_X8_build_80.2 (by decide) (by rfl) (by rfl) (by rfl) (Nat.le_of_ble_eq_true rfl) (by decide) (J_X8_putFigures_14 C.2.2.1 C.1 N v1 w46 w48 S ew51) ?_
    refine aRun_ok hC hT 2 (cf' := (46, [(1, .int (v1 + (1 : Int32))), (0, .ref 14)], [], LAY, w50)) (by rfl) ?_
    refine aLocs [1, 0] (lv' := [(0, .ref 14), (1, .int (v1 + (1 : Int32)))]) rfl ?_
    exact hrec46 (v1 + (1 : Int32)) w50 hf
def X8_build_14_l46 (N : Nat) : Nat → Int32 → aSt → Option (aSt)
  | 0 => fun _ _ => none
  | n + 1 => X8_build_14_b46 N (X8_build_14_l46 N n)
theorem X8_build_14_l46_ok {C : aC} {N : Nat} (hC : aCx C M_X8_build) {r : aSt} (hF : aFin C none LAY r 0 0) : ∀ (n : Nat) (v1 : Int32) (S : aSt), X8_build_14_l46 N n v1 S = (some r) → aX C M_X8_build 0 0 (46, [(0, .ref 14), (1, .int v1)], [], LAY, S)
  | 0, _, _,  h => nomatch (show (none : Option (aSt)) = some _ from h)
  | n + 1, v1, S,  h => X8_build_14_b46_ok hC hF (fun v1 S h => X8_build_14_l46_ok hC hF n v1 S h) v1 S h
def X8_build_14_b44 (N : Nat) (S : aSt) : Option (aSt) := (X8_build_14_l46 N N (0 : Int32) S)
set_option maxHeartbeats 4000000 in
set_option maxRecDepth 100000 in
theorem X8_build_14_b44_ok {C : aC} {N : Nat} (hC : aCx C M_X8_build) {r : aSt} (hF : aFin C none LAY r 0 0) (S : aSt) (hf : X8_build_14_b44 N S = (some r)) : aX C M_X8_build 0 0 (44, [(0, .ref 14)], [], LAY, S) := by
  have hT := ok_X8_build
  unfold X8_build_14_b44 at hf
  refine aRun_ok hC hT 2 (cf' := (46, [(1, .int (0 : Int32)), (0, .ref 14)], [], LAY, S)) (by rfl) ?_
  refine aLocs [1, 0] (lv' := [(0, .ref 14), (1, .int (0 : Int32))]) rfl ?_
  exact X8_build_14_l46_ok hC hF N (0 : Int32) S hf
def X8_build_14_b7 (N : Nat) (rec7 : Int32 → aSt → Option (aSt)) (v1 : Int32) (S : aSt) : Option (aSt) := (if (S.1 8 0) ≤ v1 then (X8_build_14_b44 N S) else (aLet (X2_told_8 v1 (1 : Int32) S) (fun w52 => (aLet (X8_oddsAt_14 v1 (0 : Int32) S) (fun w54 => (Option.bind (X8_putTurns_14 N v1 w52 w54 S) (fun w56 => (rec7 (v1 + (1 : Int32)) w56))))))))
set_option maxHeartbeats 4000000 in
set_option maxRecDepth 100000 in
theorem X8_build_14_b7_ok {C : aC} {N : Nat} {rec7 : Int32 → aSt → Option (aSt)} (hC : aCx C M_X8_build) {r : aSt} (hF : aFin C none LAY r 0 0) (hrec7 : ∀ (v1 : Int32) (S : aSt), rec7 v1 S = (some r) → aX C M_X8_build 0 0 (7, [(0, .ref 14), (1, .int v1)], [], LAY, S)) (v1 : Int32) (S : aSt) (hf : X8_build_14_b7 N rec7 v1 S = (some r)) : aX C M_X8_build 0 0 (7, [(0, .ref 14), (1, .int v1)], [], LAY, S) := by
  have hT := ok_X8_build
  unfold X8_build_14_b7 at hf
  refine aRun_ok hC hT 4 (cf' := (15, [(0, .ref 14), (1, .int v1)], [.int (S.1 8 0), .int v1], LAY, S)) (by rfl) ?_
  refine aCmp_ge hC hT (tgt := 44) rfl (by decide) (fun hc1 => ?_) (fun hc1 => ?_)
  · have hf := aIfT hf hc1
    refine aLocs [0] (lv' := [(0, .ref 14)]) rfl ?_
    exact X8_build_14_b44_ok hC hF S hf
  · have hf := aIfF hf hc1
    refine aRun_ok hC hT 6 (cf' := (26, [(0, .ref 14), (1, .int v1)], [.int (1 : Int32), .int v1, .ref 8, .int v1, .ref 14], LAY, S)) (by rfl) ?_
    obtain ⟨w52, ew53, hf⟩ := aLetE hf
    refine aCallV (b := 8) (As := [.int v1, .int (1 : Int32)]) (rest := [.int v1, .ref 14]) hC hT rfl k_X8_build_57.1 _ _ k_X8_build_57.2 (by decide) (by rfl) (by rfl) (by rfl) (Nat.le_of_ble_eq_true rfl) (by decide) (J_X2_told_8 C.2.2.1 C.1 v1 (1 : Int32) S ew53) ?_
    refine aRun_ok hC hT 3 (cf' := (32, [(0, .ref 14), (1, .int v1)], [.int (0 : Int32), .int v1, .ref 14, .int w52, .int v1, .ref 14], LAY, S)) (by rfl) ?_
    obtain ⟨w54, ew55, hf⟩ := aLetE hf
    refine aCallV (b := 14) (As := [.int v1, .int (0 : Int32)]) (rest := [.int w52, .int v1, .ref 14]) hC hT rfl k_X8_build_73.1 _ _ k_X8_build_73.2 (by decide) (by rfl) (by rfl) (by rfl) (Nat.le_of_ble_eq_true rfl) (by decide) (J_X8_oddsAt_14 C.2.2.1 C.1 v1 (0 : Int32) S ew55) ?_
    obtain ⟨w56, ew57, hf⟩ := aBnE hf
    refine aCallV (b := 14) (As := [.int v1, .int w52, .int w54]) (rest := []) hC hT rfl k_X8_build_76.1 _ _ k_X8_build_76.2 (by decide) (by rfl) (by rfl) (by rfl) (Nat.le_of_ble_eq_true rfl) (by decide) (J_X8_putTurns_14 C.2.2.1 C.1 N v1 w52 w54 S ew57) ?_
    refine aRun_ok hC hT 2 (cf' := (7, [(1, .int (v1 + (1 : Int32))), (0, .ref 14)], [], LAY, w56)) (by rfl) ?_
    refine aLocs [1, 0] (lv' := [(0, .ref 14), (1, .int (v1 + (1 : Int32)))]) rfl ?_
    exact hrec7 (v1 + (1 : Int32)) w56 hf
def X8_build_14_l7 (N : Nat) : Nat → Int32 → aSt → Option (aSt)
  | 0 => fun _ _ => none
  | n + 1 => X8_build_14_b7 N (X8_build_14_l7 N n)
theorem X8_build_14_l7_ok {C : aC} {N : Nat} (hC : aCx C M_X8_build) {r : aSt} (hF : aFin C none LAY r 0 0) : ∀ (n : Nat) (v1 : Int32) (S : aSt), X8_build_14_l7 N n v1 S = (some r) → aX C M_X8_build 0 0 (7, [(0, .ref 14), (1, .int v1)], [], LAY, S)
  | 0, _, _,  h => nomatch (show (none : Option (aSt)) = some _ from h)
  | n + 1, v1, S,  h => X8_build_14_b7_ok hC hF (fun v1 S h => X8_build_14_l7_ok hC hF n v1 S h) v1 S h
def X8_build_14 (N : Nat) (S : aSt) : Option (aSt) := (X8_build_14_l7 N N (0 : Int32) (aI S 14 0 (0 : Int32)))
set_option maxHeartbeats 4000000 in
set_option maxRecDepth 100000 in
theorem J_X8_build_14 (l : Launch) (g : aWg) (N : Nat) (S : aSt) {r : aSt} (hf : X8_build_14 N S = (some r)) : aJ l g yX8_build M_X8_build [.ref 14] LAY S none LAY r 0 0 := by
  refine aJ_of (by decide +kernel) rfl (Nat.le_of_ble_eq_true rfl) (fun h => nomatch h) ?_
  intro C hg hl hC hz hF
  subst hg; subst hl
  have hT := ok_X8_build
  unfold X8_build_14 at hf
  show aX C M_X8_build 0 0 (0, [(0, .ref 14)], [], LAY, S)
  refine aRun_ok hC hT 5 (cf' := (7, [(1, .int (0 : Int32)), (0, .ref 14)], [], LAY, (aI S 14 0 (0 : Int32)))) (by rfl) ?_
  refine aLocs [1, 0] (lv' := [(0, .ref 14), (1, .int (0 : Int32))]) rfl ?_
  exact X8_build_14_l7_ok hC hF N (0 : Int32) (aI S 14 0 (0 : Int32)) hf
