def X11_strike_42_b47 (N : Nat) (S : aSt) : Option (Int32 × aSt) := some ((((S.1 42 5) - (1 : Int32)), (aI S 42 5 ((S.1 42 5) - (1 : Int32)))))
set_option maxHeartbeats 4000000 in
set_option maxRecDepth 100000 in
theorem X11_strike_42_b47_ok {C : aC} {N : Nat} (hC : aCx C M_X11_strike) {r : Int32 × aSt} (hF : aFin C (some (.int r.1)) LAY r.2 0 0) (S : aSt) (hf : X11_strike_42_b47 N S = (some r)) : aX C M_X11_strike 0 0 (47, [(0, .ref 42)], [], LAY, S) := by
  have hT := ok_X11_strike
  unfold X11_strike_42_b47 at hf
  refine aRun_ok hC hT 8 (cf' := (61, [(0, .ref 42)], [.int ((S.1 42 5) - (1 : Int32))], LAY, (aI S 42 5 ((S.1 42 5) - (1 : Int32))))) (by rfl) ?_
  cases hf
  exact aRetI hC hT hF rfl rfl
def X11_strike_42_b15 (N : Nat) (rec15 : Int32 → aSt → Option (Int32 × aSt)) (v2 : Int32) (S : aSt) : Option (Int32 × aSt) := (if (((5 : Int32) * (S.1 42 5)) - (5 : Int32)) ≤ v2 then (X11_strike_42_b47 N S) else (if aIx (v2 + (5 : Int32)) 150 = true then (if aIx v2 150 = true then (rec15 (v2 + (1 : Int32)) (aA S 45 (upd (S.2.2 45) v2.toNatClampNeg ((S.2.2 45) (v2 + (5 : Int32)).toNatClampNeg)))) else none) else none))
set_option maxHeartbeats 4000000 in
set_option maxRecDepth 100000 in
theorem X11_strike_42_b15_ok {C : aC} {N : Nat} {rec15 : Int32 → aSt → Option (Int32 × aSt)} (hC : aCx C M_X11_strike) {r : Int32 × aSt} (hF : aFin C (some (.int r.1)) LAY r.2 0 0) (hrec15 : ∀ (v2 : Int32) (S : aSt), rec15 v2 S = (some r) → aX C M_X11_strike 0 0 (15, [(0, .ref 42), (2, .int v2)], [], LAY, S)) (v2 : Int32) (S : aSt) (hf : X11_strike_42_b15 N rec15 v2 S = (some r)) : aX C M_X11_strike 0 0 (15, [(0, .ref 42), (2, .int v2)], [], LAY, S) := by
  have hT := ok_X11_strike
  unfold X11_strike_42_b15 at hf
  refine aRun_ok hC hT 7 (cf' := (24, [(0, .ref 42), (2, .int v2)], [.int (((5 : Int32) * (S.1 42 5)) - (5 : Int32)), .int v2], LAY, S)) (by rfl) ?_
  refine aCmp_ge hC hT (tgt := 47) rfl (by decide) (fun hc4 => ?_) (fun hc4 => ?_)
  · have hf := aIfT hf hc4
    refine aLocs [0] (lv' := [(0, .ref 42)]) rfl ?_
    exact X11_strike_42_b47_ok hC hF S hf
  · have hf := aIfF hf hc4
    refine aRun_ok hC hT 8 (cf' := (39, [(0, .ref 42), (2, .int v2)], [.int (v2 + (5 : Int32)), .ref 45, .int v2, .ref 45], LAY, S)) (by rfl) ?_
    obtain ⟨hin5, hf⟩ := aGdE hf
    refine aIald hC hT rfl (by decide) (by rfl) hin5 ?_
    obtain ⟨hin6, hf⟩ := aGdE hf
    refine aIast hC hT rfl (by decide) (by rfl) hin6 ?_
    refine aRun_ok hC hT 2 (cf' := (15, [(2, .int (v2 + (1 : Int32))), (0, .ref 42)], [], LAY, (aA S 45 (upd (S.2.2 45) v2.toNatClampNeg ((S.2.2 45) (v2 + (5 : Int32)).toNatClampNeg))))) (by rfl) ?_
    refine aLocs [1, 0] (lv' := [(0, .ref 42), (2, .int (v2 + (1 : Int32)))]) rfl ?_
    exact hrec15 (v2 + (1 : Int32)) (aA S 45 (upd (S.2.2 45) v2.toNatClampNeg ((S.2.2 45) (v2 + (5 : Int32)).toNatClampNeg))) hf
def X11_strike_42_l15 (N : Nat) : Nat → Int32 → aSt → Option (Int32 × aSt)
  | 0 => fun _ _ => none
  | n + 1 => X11_strike_42_b15 N (X11_strike_42_l15 N n)
theorem X11_strike_42_l15_ok {C : aC} {N : Nat} (hC : aCx C M_X11_strike) {r : Int32 × aSt} (hF : aFin C (some (.int r.1)) LAY r.2 0 0) : ∀ (n : Nat) (v2 : Int32) (S : aSt), X11_strike_42_l15 N n v2 S = (some r) → aX C M_X11_strike 0 0 (15, [(0, .ref 42), (2, .int v2)], [], LAY, S)
  | 0, _, _,  h => nomatch (show (none : Option (Int32 × aSt)) = some _ from h)
  | n + 1, v2, S,  h => X11_strike_42_b15_ok hC hF (fun v2 S h => X11_strike_42_l15_ok hC hF n v2 S h) v2 S h
def X11_strike_42 (N : Nat) (a1 : Int32) (S : aSt) : Option (Int32 × aSt) := (Option.bind (X11_isEntry_42 N a1 S) (fun w1 => (if w1 = (0 : Int32) then some ((((-2) : Int32), S)) else (X11_strike_42_l15 N N ((5 : Int32) * a1) S))))
set_option maxHeartbeats 4000000 in
set_option maxRecDepth 100000 in
theorem J_X11_strike_42 (l : Launch) (g : aWg) (N : Nat) (a1 : Int32) (S : aSt) {r : Int32 × aSt} (hf : X11_strike_42 N a1 S = (some r)) : aJ l g yX11_strike M_X11_strike [.ref 42, .int a1] LAY S (some (.int r.1)) LAY r.2 0 0 := by
  refine aJ_of (by decide) rfl (Nat.le_of_ble_eq_true rfl) (fun h => nomatch h) ?_
  intro C hg hl hC hz hF
  subst hg; subst hl
  have hT := ok_X11_strike
  unfold X11_strike_42 at hf
  show aX C M_X11_strike 0 0 (0, [(0, .ref 42), (1, .int a1)], [], LAY, S)
  refine aRun_ok hC hT 2 (cf' := (2, [(0, .ref 42), (1, .int a1)], [.int a1, .ref 42], LAY, S)) (by rfl) ?_
  obtain ⟨w1, ew2, hf⟩ := aBnE hf
  refine aCallV (b := 42) (As := [.int a1]) (rest := []) hC hT rfl k_X11_strike_146.1 _ _ k_X11_strike_146.2 (by decide) (by rfl) (by rfl) (by rfl) (Nat.le_of_ble_eq_true rfl) (by decide) (J_X11_isEntry_42 C.2.2.1 C.1 N a1 S ew2) ?_
  refine aIf_ne hC hT (tgt := 11) rfl (by decide) (fun hc3 => ?_) (fun hc3 => ?_)
  · have hf := aIfF hf hc3
    refine aRun_ok hC hT 4 (cf' := (15, [(2, .int ((5 : Int32) * a1)), (0, .ref 42), (1, .int a1)], [], LAY, S)) (by rfl) ?_
    refine aLocs [1, 0] (lv' := [(0, .ref 42), (2, .int ((5 : Int32) * a1))]) rfl ?_
    exact X11_strike_42_l15_ok hC hF N ((5 : Int32) * a1) S hf
  · have hf := aIfT hf hc3
    refine aRun_ok hC hT 1 (cf' := (10, [(0, .ref 42), (1, .int a1)], [.int ((-2) : Int32)], LAY, S)) (by rfl) ?_
    cases hf
    exact aRetI hC hT hF rfl rfl
def X11_two_42 (N : Nat) (a1 : Int32) (S : aSt) : Option (Int64 × aSt) := (aLet (X11_in (a1.toInt64) (0 : Int64) (1 : Int64)) (fun w1 => (if w1 = (0 : Int32) then some ((((-3) : Int64), S)) else (Option.bind (X11_layTwo_42 N (0 : Int32) S) (fun w4 => (if a1 = (0 : Int32) then some (((w4.2.1 42 26), w4)) else some (((w4.2.1 42 27), w4))))))))
set_option maxHeartbeats 4000000 in
set_option maxRecDepth 100000 in
theorem J_X11_two_42 (l : Launch) (g : aWg) (N : Nat) (a1 : Int32) (S : aSt) {r : Int64 × aSt} (hf : X11_two_42 N a1 S = (some r)) : aJ l g yX11_two M_X11_two [.ref 42, .int a1] LAY S (some (.long r.1)) LAY r.2 0 0 := by
  refine aJ_of (by decide) rfl (Nat.le_of_ble_eq_true rfl) (fun h => nomatch h) ?_
  intro C hg hl hC hz hF
  subst hg; subst hl
  have hT := ok_X11_two
  unfold X11_two_42 at hf
  show aX C M_X11_two 0 0 (0, [(0, .ref 42), (1, .int a1)], [], LAY, S)
  refine aRun_ok hC hT 4 (cf' := (4, [(0, .ref 42), (1, .int a1)], [.long (1 : Int64), .long (0 : Int64), .long (a1.toInt64)], LAY, S)) (by rfl) ?_
  obtain ⟨w1, ew2, hf⟩ := aLetE hf
  refine aCallS (As := [.long (a1.toInt64), .long (0 : Int64), .long (1 : Int64)]) (rest := []) hC hT rfl k_X11_two_70.1 _ k_X11_two_70.2 (by rfl) (Nat.le_of_ble_eq_true rfl) (by decide) (J_X11_in C.2.2.1 C.1 (a1.toInt64) (0 : Int64) (1 : Int64) S ew2) ?_
  refine aIf_ne hC hT (tgt := 14) rfl (by decide) (fun hc3 => ?_) (fun hc3 => ?_)
  · have hf := aIfF hf hc3
    refine aRun_ok hC hT 2 (cf' := (16, [(0, .ref 42), (1, .int a1)], [.int (0 : Int32), .ref 42], LAY, S)) (by rfl) ?_
    obtain ⟨w4, ew5, hf⟩ := aBnE hf
    refine aCallV (b := 42) (As := [.int (0 : Int32)]) (rest := []) hC hT rfl k_X11_two_254.1 _ _ k_X11_two_254.2 (by decide) (by rfl) (by rfl) (by rfl) (Nat.le_of_ble_eq_true rfl) (by decide) (J_X11_layTwo_42 C.2.2.1 C.1 N (0 : Int32) S ew5) ?_
    refine aRun_ok hC hT 1 (cf' := (20, [(0, .ref 42), (1, .int a1)], [.int a1], LAY, w4)) (by rfl) ?_
    refine aIf_ne hC hT (tgt := 30) rfl (by decide) (fun hc6 => ?_) (fun hc6 => ?_)
    · have hf := aIfF hf hc6
      refine aRun_ok hC hT 2 (cf' := (34, [(0, .ref 42), (1, .int a1)], [.long (w4.2.1 42 27)], LAY, w4)) (by rfl) ?_
      cases hf
      exact aRetL hC hT hF rfl rfl
    · have hf := aIfT hf hc6
      refine aRun_ok hC hT 3 (cf' := (34, [(0, .ref 42), (1, .int a1)], [.long (w4.2.1 42 26)], LAY, w4)) (by rfl) ?_
      cases hf
      exact aRetL hC hT hF rfl rfl
  · have hf := aIfT hf hc3
    refine aRun_ok hC hT 1 (cf' := (13, [(0, .ref 42), (1, .int a1)], [.long ((-3) : Int64)], LAY, S)) (by rfl) ?_
    cases hf
    exact aRetL hC hT hF rfl rfl
def X11_whose_42_b110 (N : Nat) (v2 : Int32) (v3 : Int64) (S : aSt) : Option (Int32 × aSt) := (Option.bind (X11_oneWeights_42 N S) (fun w11 => (Option.bind (X11_lowest N v3 w11 v2) (fun w13 => some (((w13.toInt32), S))))))
set_option maxHeartbeats 4000000 in
set_option maxRecDepth 100000 in
theorem X11_whose_42_b110_ok {C : aC} {N : Nat} (hC : aCx C M_X11_whose) {r : Int32 × aSt} (hF : aFin C (some (.int r.1)) LAY r.2 0 0) (v2 : Int32) (v3 : Int64) (S : aSt) (hf : X11_whose_42_b110 N v2 v3 S = (some r)) : aX C M_X11_whose 0 0 (110, [(0, .ref 42), (2, .int v2), (3, .long v3)], [], LAY, S) := by
  have hT := ok_X11_whose
  unfold X11_whose_42_b110 at hf
  refine aRun_ok hC hT 2 (cf' := (112, [(0, .ref 42), (2, .int v2), (3, .long v3)], [.ref 42, .long v3], LAY, S)) (by rfl) ?_
  obtain ⟨w11, ew12, hf⟩ := aBnE hf
  refine aCallV (b := 42) (As := []) (rest := [.long v3]) hC hT rfl k_X11_whose_268.1 _ _ k_X11_whose_268.2 (by decide) (by rfl) (by rfl) (by rfl) (Nat.le_of_ble_eq_true rfl) (by decide) (J_X11_oneWeights_42 C.2.2.1 C.1 N  S ew12) ?_
  refine aRun_ok hC hT 1 (cf' := (116, [(0, .ref 42), (2, .int v2), (3, .long v3)], [.int v2, .long w11, .long v3], LAY, S)) (by rfl) ?_
  obtain ⟨w13, ew14, hf⟩ := aBnE hf
  refine aCallS (As := [.long v3, .long w11, .int v2]) (rest := []) hC hT rfl k_X11_whose_272.1 _ k_X11_whose_272.2 (by rfl) (Nat.le_of_ble_eq_true rfl) (by decide) (J_X11_lowest C.2.2.1 C.1 N v3 w11 v2 S ew14) ?_
  refine aRun_ok hC hT 1 (cf' := (120, [(0, .ref 42), (2, .int v2), (3, .long v3)], [.int (w13.toInt32)], LAY, S)) (by rfl) ?_
  cases hf
  exact aRetI hC hT hF rfl rfl
def X11_whose_42_b102 (N : Nat) (rec40 : Int32 → Int32 → Int64 → Int32 → aSt → Option (Int32 × aSt)) (v1 : Int32) (v2 : Int32) (v5 : Int32) (s0 : Int64) (s1 : Int64) (S : aSt) : Option (Int32 × aSt) := (rec40 v1 v2 (s1 + s0) (v5 + (1 : Int32)) S)
set_option maxHeartbeats 4000000 in
set_option maxRecDepth 100000 in
theorem X11_whose_42_b102_ok {C : aC} {N : Nat} {rec40 : Int32 → Int32 → Int64 → Int32 → aSt → Option (Int32 × aSt)} (hC : aCx C M_X11_whose) {r : Int32 × aSt} (hF : aFin C (some (.int r.1)) LAY r.2 0 0) (hrec40 : ∀ (v1 : Int32) (v2 : Int32) (v3 : Int64) (v5 : Int32) (S : aSt), rec40 v1 v2 v3 v5 S = (some r) → aX C M_X11_whose 0 0 (40, [(0, .ref 42), (1, .int v1), (2, .int v2), (3, .long v3), (5, .int v5)], [], LAY, S)) (v1 : Int32) (v2 : Int32) (v5 : Int32) (s0 : Int64) (s1 : Int64) (S : aSt) (hf : X11_whose_42_b102 N rec40 v1 v2 v5 s0 s1 S = (some r)) : aX C M_X11_whose 0 0 (102, [(0, .ref 42), (1, .int v1), (2, .int v2), (5, .int v5)], [.long s0, .long s1], LAY, S) := by
  have hT := ok_X11_whose
  unfold X11_whose_42_b102 at hf
  refine aRun_ok hC hT 4 (cf' := (40, [(5, .int (v5 + (1 : Int32))), (3, .long (s1 + s0)), (0, .ref 42), (1, .int v1), (2, .int v2)], [], LAY, S)) (by rfl) ?_
  refine aLocs [2, 3, 4, 1, 0] (lv' := [(0, .ref 42), (1, .int v1), (2, .int v2), (3, .long (s1 + s0)), (5, .int (v5 + (1 : Int32)))]) rfl ?_
  exact hrec40 v1 v2 (s1 + s0) (v5 + (1 : Int32)) S hf
def X11_whose_42_b101 (N : Nat) (rec40 : Int32 → Int32 → Int64 → Int32 → aSt → Option (Int32 × aSt)) (v1 : Int32) (v2 : Int32) (v5 : Int32) (s0 : Int64) (S : aSt) : Option (Int32 × aSt) := (X11_whose_42_b102 N rec40 v1 v2 v5 (0 : Int64) s0 S)
set_option maxHeartbeats 4000000 in
set_option maxRecDepth 100000 in
theorem X11_whose_42_b101_ok {C : aC} {N : Nat} {rec40 : Int32 → Int32 → Int64 → Int32 → aSt → Option (Int32 × aSt)} (hC : aCx C M_X11_whose) {r : Int32 × aSt} (hF : aFin C (some (.int r.1)) LAY r.2 0 0) (hrec40 : ∀ (v1 : Int32) (v2 : Int32) (v3 : Int64) (v5 : Int32) (S : aSt), rec40 v1 v2 v3 v5 S = (some r) → aX C M_X11_whose 0 0 (40, [(0, .ref 42), (1, .int v1), (2, .int v2), (3, .long v3), (5, .int v5)], [], LAY, S)) (v1 : Int32) (v2 : Int32) (v5 : Int32) (s0 : Int64) (S : aSt) (hf : X11_whose_42_b101 N rec40 v1 v2 v5 s0 S = (some r)) : aX C M_X11_whose 0 0 (101, [(0, .ref 42), (1, .int v1), (2, .int v2), (5, .int v5)], [.long s0], LAY, S) := by
  have hT := ok_X11_whose
  unfold X11_whose_42_b101 at hf
  refine aRun_ok hC hT 1 (cf' := (102, [(0, .ref 42), (1, .int v1), (2, .int v2), (5, .int v5)], [.long (0 : Int64), .long s0], LAY, S)) (by rfl) ?_
  exact X11_whose_42_b102_ok hC hF hrec40 v1 v2 v5 (0 : Int64) s0 S hf
def X11_whose_42_b40 (N : Nat) (rec40 : Int32 → Int32 → Int64 → Int32 → aSt → Option (Int32 × aSt)) (v1 : Int32) (v2 : Int32) (v3 : Int64) (v5 : Int32) (S : aSt) : Option (Int32 × aSt) := (if (S.1 42 25) ≤ v5 then (X11_whose_42_b110 N v2 v3 S) else (if aIx v5 2048 = true then (if aIx ((S.2.2 55) v5.toNatClampNeg) 2048 = true then (if (5 : Int32) ≤ ((S.2.2 50) ((S.2.2 55) v5.toNatClampNeg).toNatClampNeg) then (X11_whose_42_b101 N rec40 v1 v2 v5 v3 S) else (if aIx ((S.2.2 55) v5.toNatClampNeg) 2048 = true then (if aIx (((5 : Int32) * ((S.2.2 51) ((S.2.2 55) v5.toNatClampNeg).toNatClampNeg)) + (3 : Int32)) 150 = true then (if ((S.2.2 45) (((5 : Int32) * ((S.2.2 51) ((S.2.2 55) v5.toNatClampNeg).toNatClampNeg)) + (3 : Int32)).toNatClampNeg) = v1 then (if aIx ((S.2.2 55) v5.toNatClampNeg) 2048 = true then (X11_whose_42_b102 N rec40 v1 v2 v5 (((S.2.2 54) ((S.2.2 55) v5.toNatClampNeg).toNatClampNeg).toInt64) v3 S) else none) else (X11_whose_42_b101 N rec40 v1 v2 v5 v3 S)) else none) else none)) else none) else none))
set_option maxHeartbeats 4000000 in
set_option maxRecDepth 100000 in
theorem X11_whose_42_b40_ok {C : aC} {N : Nat} {rec40 : Int32 → Int32 → Int64 → Int32 → aSt → Option (Int32 × aSt)} (hC : aCx C M_X11_whose) {r : Int32 × aSt} (hF : aFin C (some (.int r.1)) LAY r.2 0 0) (hrec40 : ∀ (v1 : Int32) (v2 : Int32) (v3 : Int64) (v5 : Int32) (S : aSt), rec40 v1 v2 v3 v5 S = (some r) → aX C M_X11_whose 0 0 (40, [(0, .ref 42), (1, .int v1), (2, .int v2), (3, .long v3), (5, .int v5)], [], LAY, S)) (v1 : Int32) (v2 : Int32) (v3 : Int64) (v5 : Int32) (S : aSt) (hf : X11_whose_42_b40 N rec40 v1 v2 v3 v5 S = (some r)) : aX C M_X11_whose 0 0 (40, [(0, .ref 42), (1, .int v1), (2, .int v2), (3, .long v3), (5, .int v5)], [], LAY, S) := by
  have hT := ok_X11_whose
  unfold X11_whose_42_b40 at hf
  refine aRun_ok hC hT 3 (cf' := (46, [(0, .ref 42), (1, .int v1), (2, .int v2), (3, .long v3), (5, .int v5)], [.int (S.1 42 25), .int v5], LAY, S)) (by rfl) ?_
  refine aCmp_ge hC hT (tgt := 110) rfl (by decide) (fun hc10 => ?_) (fun hc10 => ?_)
  · have hf := aIfT hf hc10
    refine aLocs [0, 2, 3] (lv' := [(0, .ref 42), (2, .int v2), (3, .long v3)]) rfl ?_
    exact X11_whose_42_b110_ok hC hF v2 v3 S hf
  · have hf := aIfF hf hc10
    refine aRun_ok hC hT 3 (cf' := (55, [(0, .ref 42), (1, .int v1), (2, .int v2), (3, .long v3), (5, .int v5)], [.int v5, .ref 55], LAY, S)) (by rfl) ?_
    obtain ⟨hin15, hf⟩ := aGdE hf
    refine aIald hC hT rfl (by decide) (by rfl) hin15 ?_
    refine aRun_ok hC hT 5 (cf' := (65, [(6, .int ((S.2.2 55) v5.toNatClampNeg)), (0, .ref 42), (1, .int v1), (2, .int v2), (3, .long v3), (5, .int v5)], [.int ((S.2.2 55) v5.toNatClampNeg), .ref 50, .long v3], LAY, S)) (by rfl) ?_
    obtain ⟨hin16, hf⟩ := aGdE hf
    refine aIald hC hT rfl (by decide) (by rfl) hin16 ?_
    refine aRun_ok hC hT 1 (cf' := (67, [(6, .int ((S.2.2 55) v5.toNatClampNeg)), (0, .ref 42), (1, .int v1), (2, .int v2), (3, .long v3), (5, .int v5)], [.int (5 : Int32), .int ((S.2.2 50) ((S.2.2 55) v5.toNatClampNeg).toNatClampNeg), .long v3], LAY, S)) (by rfl) ?_
    refine aCmp_ge hC hT (tgt := 101) rfl (by decide) (fun hc17 => ?_) (fun hc17 => ?_)
    · have hf := aIfT hf hc17
      refine aLocs [1, 2, 3, 5] (lv' := [(0, .ref 42), (1, .int v1), (2, .int v2), (5, .int v5)]) rfl ?_
      exact X11_whose_42_b101_ok hC hF hrec40 v1 v2 v5 v3 S hf
    · have hf := aIfF hf hc17
      refine aRun_ok hC hT 6 (cf' := (81, [(6, .int ((S.2.2 55) v5.toNatClampNeg)), (0, .ref 42), (1, .int v1), (2, .int v2), (3, .long v3), (5, .int v5)], [.int ((S.2.2 55) v5.toNatClampNeg), .ref 51, .int (5 : Int32), .ref 45, .long v3], LAY, S)) (by rfl) ?_
      obtain ⟨hin18, hf⟩ := aGdE hf
      refine aIald hC hT rfl (by decide) (by rfl) hin18 ?_
      refine aRun_ok hC hT 3 (cf' := (85, [(6, .int ((S.2.2 55) v5.toNatClampNeg)), (0, .ref 42), (1, .int v1), (2, .int v2), (3, .long v3), (5, .int v5)], [.int (((5 : Int32) * ((S.2.2 51) ((S.2.2 55) v5.toNatClampNeg).toNatClampNeg)) + (3 : Int32)), .ref 45, .long v3], LAY, S)) (by rfl) ?_
      obtain ⟨hin19, hf⟩ := aGdE hf
      refine aIald hC hT rfl (by decide) (by rfl) hin19 ?_
      refine aRun_ok hC hT 1 (cf' := (87, [(6, .int ((S.2.2 55) v5.toNatClampNeg)), (0, .ref 42), (1, .int v1), (2, .int v2), (3, .long v3), (5, .int v5)], [.int v1, .int ((S.2.2 45) (((5 : Int32) * ((S.2.2 51) ((S.2.2 55) v5.toNatClampNeg).toNatClampNeg)) + (3 : Int32)).toNatClampNeg), .long v3], LAY, S)) (by rfl) ?_
      refine aCmp_ne hC hT (tgt := 101) rfl (by decide) (fun hc20 => ?_) (fun hc20 => ?_)
      · have hf := aIfF hf hc20
        refine aLocs [1, 2, 3, 5] (lv' := [(0, .ref 42), (1, .int v1), (2, .int v2), (5, .int v5)]) rfl ?_
        exact X11_whose_42_b101_ok hC hF hrec40 v1 v2 v5 v3 S hf
      · have hf := aIfT hf hc20
        refine aRun_ok hC hT 3 (cf' := (96, [(6, .int ((S.2.2 55) v5.toNatClampNeg)), (0, .ref 42), (1, .int v1), (2, .int v2), (3, .long v3), (5, .int v5)], [.int ((S.2.2 55) v5.toNatClampNeg), .ref 54, .long v3], LAY, S)) (by rfl) ?_
        obtain ⟨hin21, hf⟩ := aGdE hf
        refine aIald hC hT rfl (by decide) (by rfl) hin21 ?_
        refine aRun_ok hC hT 2 (cf' := (102, [(6, .int ((S.2.2 55) v5.toNatClampNeg)), (0, .ref 42), (1, .int v1), (2, .int v2), (3, .long v3), (5, .int v5)], [.long (((S.2.2 54) ((S.2.2 55) v5.toNatClampNeg).toNatClampNeg).toInt64), .long v3], LAY, S)) (by rfl) ?_
        refine aLocs [1, 2, 3, 5] (lv' := [(0, .ref 42), (1, .int v1), (2, .int v2), (5, .int v5)]) rfl ?_
        exact X11_whose_42_b102_ok hC hF hrec40 v1 v2 v5 (((S.2.2 54) ((S.2.2 55) v5.toNatClampNeg).toNatClampNeg).toInt64) v3 S hf
def X11_whose_42_l40 (N : Nat) : Nat → Int32 → Int32 → Int64 → Int32 → aSt → Option (Int32 × aSt)
  | 0 => fun _ _ _ _ _ => none
  | n + 1 => X11_whose_42_b40 N (X11_whose_42_l40 N n)
theorem X11_whose_42_l40_ok {C : aC} {N : Nat} (hC : aCx C M_X11_whose) {r : Int32 × aSt} (hF : aFin C (some (.int r.1)) LAY r.2 0 0) : ∀ (n : Nat) (v1 : Int32) (v2 : Int32) (v3 : Int64) (v5 : Int32) (S : aSt), X11_whose_42_l40 N n v1 v2 v3 v5 S = (some r) → aX C M_X11_whose 0 0 (40, [(0, .ref 42), (1, .int v1), (2, .int v2), (3, .long v3), (5, .int v5)], [], LAY, S)
  | 0, _, _, _, _, _,  h => nomatch (show (none : Option (Int32 × aSt)) = some _ from h)
  | n + 1, v1, v2, v3, v5, S,  h => X11_whose_42_b40_ok hC hF (fun v1 v2 v3 v5 S h => X11_whose_42_l40_ok hC hF n v1 v2 v3 v5 S h) v1 v2 v3 v5 S h
def X11_whose_42 (N : Nat) (a1 : Int32) (a2 : Int32) (S : aSt) : Option (Int32 × aSt) := (Option.bind (X11_isHand N a1) (fun w1 => (if w1 = (0 : Int32) then some ((((-2) : Int32), S)) else (Option.bind (X11_isPart N a2) (fun w4 => (if w4 = (0 : Int32) then some ((((-3) : Int32), S)) else (Option.bind (X11_layOnes_42 N (0 : Int32) S) (fun w7 => (if (w7.1 42 25) = (0 : Int32) then some ((((-4) : Int32), w7)) else (X11_whose_42_l40 N N a1 a2 (0 : Int64) (0 : Int32) w7))))))))))
set_option maxHeartbeats 4000000 in
set_option maxRecDepth 100000 in
theorem J_X11_whose_42 (l : Launch) (g : aWg) (N : Nat) (a1 : Int32) (a2 : Int32) (S : aSt) {r : Int32 × aSt} (hf : X11_whose_42 N a1 a2 S = (some r)) : aJ l g yX11_whose M_X11_whose [.ref 42, .int a1, .int a2] LAY S (some (.int r.1)) LAY r.2 0 0 := by
  refine aJ_of (by decide) rfl (Nat.le_of_ble_eq_true rfl) (fun h => nomatch h) ?_
  intro C hg hl hC hz hF
  subst hg; subst hl
  have hT := ok_X11_whose
  unfold X11_whose_42 at hf
  show aX C M_X11_whose 0 0 (0, [(0, .ref 42), (1, .int a1), (2, .int a2)], [], LAY, S)
  refine aRun_ok hC hT 1 (cf' := (1, [(0, .ref 42), (1, .int a1), (2, .int a2)], [.int a1], LAY, S)) (by rfl) ?_
  obtain ⟨w1, ew2, hf⟩ := aBnE hf
  refine aCallS (As := [.int a1]) (rest := []) hC hT rfl k_X11_whose_167.1 _ k_X11_whose_167.2 (by rfl) (Nat.le_of_ble_eq_true rfl) (by decide) (J_X11_isHand C.2.2.1 C.1 N a1 S ew2) ?_
  refine aIf_ne hC hT (tgt := 10) rfl (by decide) (fun hc3 => ?_) (fun hc3 => ?_)
  · have hf := aIfF hf hc3
    refine aRun_ok hC hT 1 (cf' := (11, [(0, .ref 42), (1, .int a1), (2, .int a2)], [.int a2], LAY, S)) (by rfl) ?_
    obtain ⟨w4, ew5, hf⟩ := aBnE hf
    refine aCallS (As := [.int a2]) (rest := []) hC hT rfl k_X11_whose_263.1 _ k_X11_whose_263.2 (by rfl) (Nat.le_of_ble_eq_true rfl) (by decide) (J_X11_isPart C.2.2.1 C.1 N a2 S ew5) ?_
    refine aIf_ne hC hT (tgt := 20) rfl (by decide) (fun hc6 => ?_) (fun hc6 => ?_)
    · have hf := aIfF hf hc6
      refine aRun_ok hC hT 2 (cf' := (22, [(0, .ref 42), (1, .int a1), (2, .int a2)], [.int (0 : Int32), .ref 42], LAY, S)) (by rfl) ?_
      obtain ⟨w7, ew8, hf⟩ := aBnE hf
      refine aCallV (b := 42) (As := [.int (0 : Int32)]) (rest := []) hC hT rfl k_X11_whose_227.1 _ _ k_X11_whose_227.2 (by decide) (by rfl) (by rfl) (by rfl) (Nat.le_of_ble_eq_true rfl) (by decide) (J_X11_layOnes_42 C.2.2.1 C.1 N (0 : Int32) S ew8) ?_
      refine aRun_ok hC hT 2 (cf' := (29, [(0, .ref 42), (1, .int a1), (2, .int a2)], [.int (w7.1 42 25)], LAY, w7)) (by rfl) ?_
      refine aIf_ne hC hT (tgt := 35) rfl (by decide) (fun hc9 => ?_) (fun hc9 => ?_)
      · have hf := aIfF hf hc9
        refine aRun_ok hC hT 4 (cf' := (40, [(5, .int (0 : Int32)), (3, .long (0 : Int64)), (0, .ref 42), (1, .int a1), (2, .int a2)], [], LAY, w7)) (by rfl) ?_
        refine aLocs [2, 3, 4, 1, 0] (lv' := [(0, .ref 42), (1, .int a1), (2, .int a2), (3, .long (0 : Int64)), (5, .int (0 : Int32))]) rfl ?_
        exact X11_whose_42_l40_ok hC hF N a1 a2 (0 : Int64) (0 : Int32) w7 hf
      · have hf := aIfT hf hc9
        refine aRun_ok hC hT 1 (cf' := (34, [(0, .ref 42), (1, .int a1), (2, .int a2)], [.int ((-4) : Int32)], LAY, w7)) (by rfl) ?_
        cases hf
        exact aRetI hC hT hF rfl rfl
    · have hf := aIfT hf hc6
      refine aRun_ok hC hT 1 (cf' := (19, [(0, .ref 42), (1, .int a1), (2, .int a2)], [.int ((-3) : Int32)], LAY, S)) (by rfl) ?_
      cases hf
      exact aRetI hC hT hF rfl rfl
  · have hf := aIfT hf hc3
    refine aRun_ok hC hT 1 (cf' := (9, [(0, .ref 42), (1, .int a1), (2, .int a2)], [.int ((-2) : Int32)], LAY, S)) (by rfl) ?_
    cases hf
    exact aRetI hC hT hF rfl rfl
def X11_write_42_b33 (N : Nat) (rec33 : Int64 → Int32 → Int32 → aSt → Option (Int32 × aSt)) (v1 : Int64) (v3 : Int32) (v4 : Int32) (S : aSt) : Option (Int32 × aSt) := (if v3 ≤ v4 then some (((S.1 42 1), S)) else (if aIx (S.1 42 1) 200 = true then (rec33 v1 v3 (v4 + (1 : Int32)) (aI (aA S 43 (upd (S.2.2 43) (S.1 42 1).toNatClampNeg (((v1 >>> (((8 : Int32) * v4).toInt64 &&& 63)) &&& (255 : Int64)).toInt32))) 42 1 ((S.1 42 1) + (1 : Int32)))) else none))
set_option maxHeartbeats 4000000 in
set_option maxRecDepth 100000 in
theorem X11_write_42_b33_ok {C : aC} {N : Nat} {rec33 : Int64 → Int32 → Int32 → aSt → Option (Int32 × aSt)} (hC : aCx C M_X11_write) {r : Int32 × aSt} (hF : aFin C (some (.int r.1)) LAY r.2 0 0) (hrec33 : ∀ (v1 : Int64) (v3 : Int32) (v4 : Int32) (S : aSt), rec33 v1 v3 v4 S = (some r) → aX C M_X11_write 0 0 (33, [(0, .ref 42), (1, .long v1), (3, .int v3), (4, .int v4)], [], LAY, S)) (v1 : Int64) (v3 : Int32) (v4 : Int32) (S : aSt) (hf : X11_write_42_b33 N rec33 v1 v3 v4 S = (some r)) : aX C M_X11_write 0 0 (33, [(0, .ref 42), (1, .long v1), (3, .int v3), (4, .int v4)], [], LAY, S) := by
  have hT := ok_X11_write
  unfold X11_write_42_b33 at hf
  refine aRun_ok hC hT 2 (cf' := (36, [(0, .ref 42), (1, .long v1), (3, .int v3), (4, .int v4)], [.int v3, .int v4], LAY, S)) (by rfl) ?_
  refine aCmp_ge hC hT (tgt := 76) rfl (by decide) (fun hc5 => ?_) (fun hc5 => ?_)
  · have hf := aIfT hf hc5
    refine aRun_ok hC hT 2 (cf' := (80, [(0, .ref 42), (1, .long v1), (3, .int v3), (4, .int v4)], [.int (S.1 42 1)], LAY, S)) (by rfl) ?_
    cases hf
    exact aRetI hC hT hF rfl rfl
  · have hf := aIfF hf hc5
    refine aRun_ok hC hT 12 (cf' := (59, [(0, .ref 42), (1, .long v1), (3, .int v3), (4, .int v4)], [.int (((v1 >>> (((8 : Int32) * v4).toInt64 &&& 63)) &&& (255 : Int64)).toInt32), .int (S.1 42 1), .ref 43], LAY, S)) (by rfl) ?_
    obtain ⟨hin6, hf⟩ := aGdE hf
    refine aIast hC hT rfl (by decide) (by rfl) hin6 ?_
    refine aRun_ok hC hT 8 (cf' := (33, [(4, .int (v4 + (1 : Int32))), (0, .ref 42), (1, .long v1), (3, .int v3)], [], LAY, (aI (aA S 43 (upd (S.2.2 43) (S.1 42 1).toNatClampNeg (((v1 >>> (((8 : Int32) * v4).toInt64 &&& 63)) &&& (255 : Int64)).toInt32))) 42 1 ((S.1 42 1) + (1 : Int32))))) (by rfl) ?_
    refine aLocs [1, 2, 3, 0] (lv' := [(0, .ref 42), (1, .long v1), (3, .int v3), (4, .int (v4 + (1 : Int32)))]) rfl ?_
    exact hrec33 v1 v3 (v4 + (1 : Int32)) (aI (aA S 43 (upd (S.2.2 43) (S.1 42 1).toNatClampNeg (((v1 >>> (((8 : Int32) * v4).toInt64 &&& 63)) &&& (255 : Int64)).toInt32))) 42 1 ((S.1 42 1) + (1 : Int32))) hf
def X11_write_42_l33 (N : Nat) : Nat → Int64 → Int32 → Int32 → aSt → Option (Int32 × aSt)
  | 0 => fun _ _ _ _ => none
  | n + 1 => X11_write_42_b33 N (X11_write_42_l33 N n)
theorem X11_write_42_l33_ok {C : aC} {N : Nat} (hC : aCx C M_X11_write) {r : Int32 × aSt} (hF : aFin C (some (.int r.1)) LAY r.2 0 0) : ∀ (n : Nat) (v1 : Int64) (v3 : Int32) (v4 : Int32) (S : aSt), X11_write_42_l33 N n v1 v3 v4 S = (some r) → aX C M_X11_write 0 0 (33, [(0, .ref 42), (1, .long v1), (3, .int v3), (4, .int v4)], [], LAY, S)
  | 0, _, _, _, _,  h => nomatch (show (none : Option (Int32 × aSt)) = some _ from h)
  | n + 1, v1, v3, v4, S,  h => X11_write_42_b33_ok hC hF (fun v1 v3 v4 S h => X11_write_42_l33_ok hC hF n v1 v3 v4 S h) v1 v3 v4 S h
def X11_write_42 (N : Nat) (a1 : Int64) (a3 : Int32) (S : aSt) : Option (Int32 × aSt) := (aLet (X11_in (a3.toInt64) (1 : Int64) (8 : Int64)) (fun w1 => (if w1 = (0 : Int32) then some ((((-3) : Int32), S)) else (if ((S.1 42 1) + a3) ≤ (200 : Int32) then (X11_write_42_l33 N N a1 a3 (0 : Int32) S) else some ((((-5) : Int32), S))))))
set_option maxHeartbeats 4000000 in
set_option maxRecDepth 100000 in
theorem J_X11_write_42 (l : Launch) (g : aWg) (N : Nat) (a1 : Int64) (a3 : Int32) (S : aSt) {r : Int32 × aSt} (hf : X11_write_42 N a1 a3 S = (some r)) : aJ l g yX11_write M_X11_write [.ref 42, .long a1, .int a3] LAY S (some (.int r.1)) LAY r.2 0 0 := by
  refine aJ_of (by decide) rfl (Nat.le_of_ble_eq_true rfl) (fun h => nomatch h) ?_
  intro C hg hl hC hz hF
  subst hg; subst hl
  have hT := ok_X11_write
  unfold X11_write_42 at hf
  show aX C M_X11_write 0 0 (0, [(0, .ref 42), (1, .long a1), (3, .int a3)], [], LAY, S)
  refine aRun_ok hC hT 4 (cf' := (6, [(0, .ref 42), (1, .long a1), (3, .int a3)], [.long (8 : Int64), .long (1 : Int64), .long (a3.toInt64)], LAY, S)) (by rfl) ?_
  obtain ⟨w1, ew2, hf⟩ := aLetE hf
  refine aCallS (As := [.long (a3.toInt64), .long (1 : Int64), .long (8 : Int64)]) (rest := []) hC hT rfl k_X11_write_70.1 _ k_X11_write_70.2 (by rfl) (Nat.le_of_ble_eq_true rfl) (by decide) (J_X11_in C.2.2.1 C.1 (a3.toInt64) (1 : Int64) (8 : Int64) S ew2) ?_
  refine aIf_ne hC hT (tgt := 15) rfl (by decide) (fun hc3 => ?_) (fun hc3 => ?_)
  · have hf := aIfF hf hc3
    refine aRun_ok hC hT 5 (cf' := (24, [(0, .ref 42), (1, .long a1), (3, .int a3)], [.int (200 : Int32), .int ((S.1 42 1) + a3)], LAY, S)) (by rfl) ?_
    refine aCmp_le hC hT (tgt := 30) rfl (by decide) (fun hc4 => ?_) (fun hc4 => ?_)
    · have hf := aIfT hf hc4
      refine aRun_ok hC hT 2 (cf' := (33, [(4, .int (0 : Int32)), (0, .ref 42), (1, .long a1), (3, .int a3)], [], LAY, S)) (by rfl) ?_
      refine aLocs [1, 2, 3, 0] (lv' := [(0, .ref 42), (1, .long a1), (3, .int a3), (4, .int (0 : Int32))]) rfl ?_
      exact X11_write_42_l33_ok hC hF N a1 a3 (0 : Int32) S hf
    · have hf := aIfF hf hc4
      refine aRun_ok hC hT 1 (cf' := (29, [(0, .ref 42), (1, .long a1), (3, .int a3)], [.int ((-5) : Int32)], LAY, S)) (by rfl) ?_
      cases hf
      exact aRetI hC hT hF rfl rfl
  · have hf := aIfT hf hc3
    refine aRun_ok hC hT 1 (cf' := (14, [(0, .ref 42), (1, .long a1), (3, .int a3)], [.int ((-3) : Int32)], LAY, S)) (by rfl) ?_
    cases hf
    exact aRetI hC hT hF rfl rfl
