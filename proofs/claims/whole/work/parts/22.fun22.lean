def X11_laySlips_42_b146 (N : Nat) (rec85 : Int32 → aSt → Option (aSt)) (v2 : Int32) (S : aSt) : Option (aSt) := (rec85 (v2 + (1 : Int32)) S)
set_option maxHeartbeats 4000000 in
set_option maxRecDepth 100000 in
theorem X11_laySlips_42_b146_ok {C : aC} {N : Nat} {rec85 : Int32 → aSt → Option (aSt)} (hC : aCx C M_X11_laySlips) {r : aSt} (hF : aFin C none LAY r 0 0) (hrec85 : ∀ (v2 : Int32) (S : aSt), rec85 v2 S = (some r) → aX C M_X11_laySlips 0 0 (85, [(0, .ref 42), (2, .int v2)], [], LAY, S)) (v2 : Int32) (S : aSt) (hf : X11_laySlips_42_b146 N rec85 v2 S = (some r)) : aX C M_X11_laySlips 0 0 (146, [(0, .ref 42), (2, .int v2)], [], LAY, S) := by
  have hT := ok_X11_laySlips
  unfold X11_laySlips_42_b146 at hf
  refine aRun_ok hC hT 2 (cf' := (85, [(2, .int (v2 + (1 : Int32))), (0, .ref 42)], [], LAY, S)) (by rfl) ?_
  refine aLocs [1, 0] (lv' := [(0, .ref 42), (2, .int (v2 + (1 : Int32)))]) rfl ?_
  exact hrec85 (v2 + (1 : Int32)) S hf
def X11_laySlips_42_b93 (N : Nat) (rec85 : Int32 → aSt → Option (aSt)) (rec93 : Int32 → Int32 → aSt → Option (aSt)) (v2 : Int32) (v3 : Int32) (S : aSt) : Option (aSt) := (if (6 : Int32) ≤ v3 then (X11_laySlips_42_b146 N rec85 v2 S) else (Option.bind (X11_isUsed_42 N v2 S) (fun w7 => (if w7 = (0 : Int32) then (X11_laySlips_42_b146 N rec85 v2 S) else (Option.bind (X11_power N v3) (fun w10 => (Option.bind (X11_add_42 N (6 : Int32) v2 v3 (-w10) (S.1 42 11) S) (fun w12 => (Option.bind (X11_power N v3) (fun w14 => (Option.bind (X11_add_42 N (6 : Int32) v2 v3 w14 (w12.1 42 11) w12) (fun w16 => (rec93 v2 (v3 + (1 : Int32)) w16)))))))))))))
set_option maxHeartbeats 4000000 in
set_option maxRecDepth 100000 in
theorem X11_laySlips_42_b93_ok {C : aC} {N : Nat} {rec85 : Int32 → aSt → Option (aSt)} {rec93 : Int32 → Int32 → aSt → Option (aSt)} (hC : aCx C M_X11_laySlips) {r : aSt} (hF : aFin C none LAY r 0 0) (hrec85 : ∀ (v2 : Int32) (S : aSt), rec85 v2 S = (some r) → aX C M_X11_laySlips 0 0 (85, [(0, .ref 42), (2, .int v2)], [], LAY, S)) (hrec93 : ∀ (v2 : Int32) (v3 : Int32) (S : aSt), rec93 v2 v3 S = (some r) → aX C M_X11_laySlips 0 0 (93, [(0, .ref 42), (2, .int v2), (3, .int v3)], [], LAY, S)) (v2 : Int32) (v3 : Int32) (S : aSt) (hf : X11_laySlips_42_b93 N rec85 rec93 v2 v3 S = (some r)) : aX C M_X11_laySlips 0 0 (93, [(0, .ref 42), (2, .int v2), (3, .int v3)], [], LAY, S) := by
  have hT := ok_X11_laySlips
  unfold X11_laySlips_42_b93 at hf
  refine aRun_ok hC hT 2 (cf' := (96, [(0, .ref 42), (2, .int v2), (3, .int v3)], [.int (6 : Int32), .int v3], LAY, S)) (by rfl) ?_
  refine aCmp_ge hC hT (tgt := 146) rfl (by decide) (fun hc6 => ?_) (fun hc6 => ?_)
  · have hf := aIfT hf hc6
    refine aLocs [0, 1] (lv' := [(0, .ref 42), (2, .int v2)]) rfl ?_
    exact X11_laySlips_42_b146_ok hC hF hrec85 v2 S hf
  · have hf := aIfF hf hc6
    refine aRun_ok hC hT 2 (cf' := (101, [(0, .ref 42), (2, .int v2), (3, .int v3)], [.int v2, .ref 42], LAY, S)) (by rfl) ?_
    obtain ⟨w7, ew8, hf⟩ := aBnE hf
    refine aCallV (b := 42) (As := [.int v2]) (rest := []) hC hT rfl k_X11_laySlips_211.1 _ _ k_X11_laySlips_211.2 (by decide) (by rfl) (by rfl) (by rfl) (Nat.le_of_ble_eq_true rfl) (by decide) (J_X11_isUsed_42 C.2.2.1 C.1 N v2 S ew8) ?_
    refine aIf_eq hC hT (tgt := 146) rfl (by decide) (fun hc9 => ?_) (fun hc9 => ?_)
    · have hf := aIfT hf hc9
      refine aLocs [0, 1] (lv' := [(0, .ref 42), (2, .int v2)]) rfl ?_
      exact X11_laySlips_42_b146_ok hC hF hrec85 v2 S hf
    · have hf := aIfF hf hc9
      refine aRun_ok hC hT 5 (cf' := (113, [(0, .ref 42), (2, .int v2), (3, .int v3)], [.int v3, .int v3, .int v2, .int (6 : Int32), .ref 42], LAY, S)) (by rfl) ?_
      obtain ⟨w10, ew11, hf⟩ := aBnE hf
      refine aCallS (As := [.int v3]) (rest := [.int v3, .int v2, .int (6 : Int32), .ref 42]) hC hT rfl k_X11_laySlips_175.1 _ k_X11_laySlips_175.2 (by rfl) (Nat.le_of_ble_eq_true rfl) (by decide) (J_X11_power C.2.2.1 C.1 N v3 S ew11) ?_
      refine aRun_ok hC hT 3 (cf' := (121, [(0, .ref 42), (2, .int v2), (3, .int v3)], [.int (S.1 42 11), .int (-w10), .int v3, .int v2, .int (6 : Int32), .ref 42], LAY, S)) (by rfl) ?_
      obtain ⟨w12, ew13, hf⟩ := aBnE hf
      refine aCallV (b := 42) (As := [.int (6 : Int32), .int v2, .int v3, .int (-w10), .int (S.1 42 11)]) (rest := []) hC hT rfl k_X11_laySlips_191.1 _ _ k_X11_laySlips_191.2 (by decide) (by rfl) (by rfl) (by rfl) (Nat.le_of_ble_eq_true rfl) (by decide) (J_X11_add_42 C.2.2.1 C.1 N (6 : Int32) v2 v3 (-w10) (S.1 42 11) S ew13) ?_
      refine aRun_ok hC hT 5 (cf' := (130, [(0, .ref 42), (2, .int v2), (3, .int v3)], [.int v3, .int v3, .int v2, .int (6 : Int32), .ref 42], LAY, w12)) (by rfl) ?_
      obtain ⟨w14, ew15, hf⟩ := aBnE hf
      refine aCallS (As := [.int v3]) (rest := [.int v3, .int v2, .int (6 : Int32), .ref 42]) hC hT rfl k_X11_laySlips_175.1 _ k_X11_laySlips_175.2 (by rfl) (Nat.le_of_ble_eq_true rfl) (by decide) (J_X11_power C.2.2.1 C.1 N v3 w12 ew15) ?_
      refine aRun_ok hC hT 2 (cf' := (137, [(0, .ref 42), (2, .int v2), (3, .int v3)], [.int (w12.1 42 11), .int w14, .int v3, .int v2, .int (6 : Int32), .ref 42], LAY, w12)) (by rfl) ?_
      obtain ⟨w16, ew17, hf⟩ := aBnE hf
      refine aCallV (b := 42) (As := [.int (6 : Int32), .int v2, .int v3, .int w14, .int (w12.1 42 11)]) (rest := []) hC hT rfl k_X11_laySlips_191.1 _ _ k_X11_laySlips_191.2 (by decide) (by rfl) (by rfl) (by rfl) (Nat.le_of_ble_eq_true rfl) (by decide) (J_X11_add_42 C.2.2.1 C.1 N (6 : Int32) v2 v3 w14 (w12.1 42 11) w12 ew17) ?_
      refine aRun_ok hC hT 2 (cf' := (93, [(3, .int (v3 + (1 : Int32))), (0, .ref 42), (2, .int v2)], [], LAY, w16)) (by rfl) ?_
      refine aLocs [1, 2, 0] (lv' := [(0, .ref 42), (2, .int v2), (3, .int (v3 + (1 : Int32)))]) rfl ?_
      exact hrec93 v2 (v3 + (1 : Int32)) w16 hf
def X11_laySlips_42_l93 (N : Nat) (rec85 : Int32 → aSt → Option (aSt)) : Nat → Int32 → Int32 → aSt → Option (aSt)
  | 0 => fun _ _ _ => none
  | n + 1 => X11_laySlips_42_b93 N rec85 (X11_laySlips_42_l93 N rec85 n)
theorem X11_laySlips_42_l93_ok {C : aC} {N : Nat} {rec85 : Int32 → aSt → Option (aSt)} (hC : aCx C M_X11_laySlips) {r : aSt} (hF : aFin C none LAY r 0 0) (hrec85 : ∀ (v2 : Int32) (S : aSt), rec85 v2 S = (some r) → aX C M_X11_laySlips 0 0 (85, [(0, .ref 42), (2, .int v2)], [], LAY, S)) : ∀ (n : Nat) (v2 : Int32) (v3 : Int32) (S : aSt), X11_laySlips_42_l93 N rec85 n v2 v3 S = (some r) → aX C M_X11_laySlips 0 0 (93, [(0, .ref 42), (2, .int v2), (3, .int v3)], [], LAY, S)
  | 0, _, _, _,  h => nomatch (show (none : Option (aSt)) = some _ from h)
  | n + 1, v2, v3, S,  h => X11_laySlips_42_b93_ok hC hF hrec85 (fun v2 v3 S h => X11_laySlips_42_l93_ok hC hF hrec85 n v2 v3 S h) v2 v3 S h
def X11_laySlips_42_b85 (N : Nat) (rec85 : Int32 → aSt → Option (aSt)) (v2 : Int32) (S : aSt) : Option (aSt) := (if (6 : Int32) ≤ v2 then some (S) else (X11_laySlips_42_l93 N rec85 N v2 (1 : Int32) S))
set_option maxHeartbeats 4000000 in
set_option maxRecDepth 100000 in
theorem X11_laySlips_42_b85_ok {C : aC} {N : Nat} {rec85 : Int32 → aSt → Option (aSt)} (hC : aCx C M_X11_laySlips) {r : aSt} (hF : aFin C none LAY r 0 0) (hrec85 : ∀ (v2 : Int32) (S : aSt), rec85 v2 S = (some r) → aX C M_X11_laySlips 0 0 (85, [(0, .ref 42), (2, .int v2)], [], LAY, S)) (v2 : Int32) (S : aSt) (hf : X11_laySlips_42_b85 N rec85 v2 S = (some r)) : aX C M_X11_laySlips 0 0 (85, [(0, .ref 42), (2, .int v2)], [], LAY, S) := by
  have hT := ok_X11_laySlips
  unfold X11_laySlips_42_b85 at hf
  refine aRun_ok hC hT 2 (cf' := (88, [(0, .ref 42), (2, .int v2)], [.int (6 : Int32), .int v2], LAY, S)) (by rfl) ?_
  refine aCmp_ge hC hT (tgt := 152) rfl (by decide) (fun hc5 => ?_) (fun hc5 => ?_)
  · have hf := aIfT hf hc5
    have e9 := Option.some.inj hf; subst e9
    exact aRetV hC hT hF rfl rfl
  · have hf := aIfF hf hc5
    refine aRun_ok hC hT 2 (cf' := (93, [(3, .int (1 : Int32)), (0, .ref 42), (2, .int v2)], [], LAY, S)) (by rfl) ?_
    refine aLocs [1, 2, 0] (lv' := [(0, .ref 42), (2, .int v2), (3, .int (1 : Int32))]) rfl ?_
    exact X11_laySlips_42_l93_ok hC hF hrec85 N v2 (1 : Int32) S hf
def X11_laySlips_42_l85 (N : Nat) : Nat → Int32 → aSt → Option (aSt)
  | 0 => fun _ _ => none
  | n + 1 => X11_laySlips_42_b85 N (X11_laySlips_42_l85 N n)
theorem X11_laySlips_42_l85_ok {C : aC} {N : Nat} (hC : aCx C M_X11_laySlips) {r : aSt} (hF : aFin C none LAY r 0 0) : ∀ (n : Nat) (v2 : Int32) (S : aSt), X11_laySlips_42_l85 N n v2 S = (some r) → aX C M_X11_laySlips 0 0 (85, [(0, .ref 42), (2, .int v2)], [], LAY, S)
  | 0, _, _,  h => nomatch (show (none : Option (aSt)) = some _ from h)
  | n + 1, v2, S,  h => X11_laySlips_42_b85_ok hC hF (fun v2 S h => X11_laySlips_42_l85_ok hC hF n v2 S h) v2 S h
def X11_laySlips_42_b83 (N : Nat) (S : aSt) : Option (aSt) := (X11_laySlips_42_l85 N N (0 : Int32) S)
set_option maxHeartbeats 4000000 in
set_option maxRecDepth 100000 in
theorem X11_laySlips_42_b83_ok {C : aC} {N : Nat} (hC : aCx C M_X11_laySlips) {r : aSt} (hF : aFin C none LAY r 0 0) (S : aSt) (hf : X11_laySlips_42_b83 N S = (some r)) : aX C M_X11_laySlips 0 0 (83, [(0, .ref 42)], [], LAY, S) := by
  have hT := ok_X11_laySlips
  unfold X11_laySlips_42_b83 at hf
  refine aRun_ok hC hT 2 (cf' := (85, [(2, .int (0 : Int32)), (0, .ref 42)], [], LAY, S)) (by rfl) ?_
  refine aLocs [1, 0] (lv' := [(0, .ref 42), (2, .int (0 : Int32))]) rfl ?_
  exact X11_laySlips_42_l85_ok hC hF N (0 : Int32) S hf
def X11_laySlips_42_b70 (N : Nat) (v1 : Int32) (s0 : Int32) (s1 : Int32) (S : aSt) : Option (aSt) := (aLet (X11_size v1) (fun w22 => (Option.bind (X11_add_42 N s1 s0 w22 (-v1) (S.1 42 10) S) (fun w24 => (X11_laySlips_42_b83 N w24)))))
set_option maxHeartbeats 4000000 in
set_option maxRecDepth 100000 in
theorem X11_laySlips_42_b70_ok {C : aC} {N : Nat} (hC : aCx C M_X11_laySlips) {r : aSt} (hF : aFin C none LAY r 0 0) (v1 : Int32) (s0 : Int32) (s1 : Int32) (S : aSt) (hf : X11_laySlips_42_b70 N v1 s0 s1 S = (some r)) : aX C M_X11_laySlips 0 0 (70, [(0, .ref 42), (1, .int v1)], [.int s0, .int s1, .ref 42], LAY, S) := by
  have hT := ok_X11_laySlips
  unfold X11_laySlips_42_b70 at hf
  refine aRun_ok hC hT 1 (cf' := (71, [(0, .ref 42), (1, .int v1)], [.int v1, .int s0, .int s1, .ref 42], LAY, S)) (by rfl) ?_
  obtain ⟨w22, ew23, hf⟩ := aLetE hf
  refine aCallS (As := [.int v1]) (rest := [.int s0, .int s1, .ref 42]) hC hT rfl k_X11_laySlips_208.1 _ k_X11_laySlips_208.2 (by rfl) (Nat.le_of_ble_eq_true rfl) (by decide) (J_X11_size C.2.2.1 C.1 v1 S ew23) ?_
  refine aRun_ok hC hT 4 (cf' := (80, [(0, .ref 42), (1, .int v1)], [.int (S.1 42 10), .int (-v1), .int w22, .int s0, .int s1, .ref 42], LAY, S)) (by rfl) ?_
  obtain ⟨w24, ew25, hf⟩ := aBnE hf
  refine aCallV (b := 42) (As := [.int s1, .int s0, .int w22, .int (-v1), .int (S.1 42 10)]) (rest := []) hC hT rfl k_X11_laySlips_191.1 _ _ k_X11_laySlips_191.2 (by decide) (by rfl) (by rfl) (by rfl) (Nat.le_of_ble_eq_true rfl) (by decide) (J_X11_add_42 C.2.2.1 C.1 N s1 s0 w22 (-v1) (S.1 42 10) S ew25) ?_
  refine aLocs [0] (lv' := [(0, .ref 42)]) rfl ?_
  exact X11_laySlips_42_b83_ok hC hF w24 hf
def X11_laySlips_42_b40 (N : Nat) (S : aSt) : Option (aSt) := (Option.bind (X11_outOf_42 N ((-1) : Int32) S) (fun w2 => (if w2 = (0 : Int32) then (X11_laySlips_42_b83 N S) else (aLet (X11_size w2) (fun w18 => (if (999999 : Int32) < w18 then (X11_laySlips_42_b83 N S) else (if w2 ≤ (0 : Int32) then (X11_laySlips_42_b70 N w2 (0 : Int32) (5 : Int32) S) else (X11_laySlips_42_b70 N w2 (1 : Int32) (5 : Int32) S))))))))
set_option maxHeartbeats 4000000 in
set_option maxRecDepth 100000 in
theorem X11_laySlips_42_b40_ok {C : aC} {N : Nat} (hC : aCx C M_X11_laySlips) {r : aSt} (hF : aFin C none LAY r 0 0) (S : aSt) (hf : X11_laySlips_42_b40 N S = (some r)) : aX C M_X11_laySlips 0 0 (40, [(0, .ref 42)], [], LAY, S) := by
  have hT := ok_X11_laySlips
  unfold X11_laySlips_42_b40 at hf
  refine aRun_ok hC hT 2 (cf' := (42, [(0, .ref 42)], [.int ((-1) : Int32), .ref 42], LAY, S)) (by rfl) ?_
  obtain ⟨w2, ew3, hf⟩ := aBnE hf
  refine aCallV (b := 42) (As := [.int ((-1) : Int32)]) (rest := []) hC hT rfl k_X11_laySlips_155.1 _ _ k_X11_laySlips_155.2 (by decide) (by rfl) (by rfl) (by rfl) (Nat.le_of_ble_eq_true rfl) (by decide) (J_X11_outOf_42 C.2.2.1 C.1 N ((-1) : Int32) S ew3) ?_
  refine aRun_ok hC hT 2 (cf' := (47, [(1, .int w2), (0, .ref 42)], [.int w2], LAY, S)) (by rfl) ?_
  refine aIf_eq hC hT (tgt := 83) rfl (by decide) (fun hc4 => ?_) (fun hc4 => ?_)
  · have hf := aIfT hf hc4
    refine aLocs [1] (lv' := [(0, .ref 42)]) rfl ?_
    exact X11_laySlips_42_b83_ok hC hF S hf
  · have hf := aIfF hf hc4
    refine aRun_ok hC hT 1 (cf' := (51, [(1, .int w2), (0, .ref 42)], [.int w2], LAY, S)) (by rfl) ?_
    obtain ⟨w18, ew19, hf⟩ := aLetE hf
    refine aCallS (As := [.int w2]) (rest := []) hC hT rfl k_X11_laySlips_208.1 _ k_X11_laySlips_208.2 (by rfl) (Nat.le_of_ble_eq_true rfl) (by decide) (J_X11_size C.2.2.1 C.1 w2 S ew19) ?_
    refine aRun_ok hC hT 1 (cf' := (56, [(1, .int w2), (0, .ref 42)], [.int (999999 : Int32), .int w18], LAY, S)) (by rfl) ?_
    refine aCmp_gt hC hT (tgt := 83) rfl (by decide) (fun hc20 => ?_) (fun hc20 => ?_)
    · have hf := aIfT hf hc20
      refine aLocs [1] (lv' := [(0, .ref 42)]) rfl ?_
      exact X11_laySlips_42_b83_ok hC hF S hf
    · have hf := aIfF hf hc20
      refine aRun_ok hC hT 3 (cf' := (62, [(1, .int w2), (0, .ref 42)], [.int w2, .int (5 : Int32), .ref 42], LAY, S)) (by rfl) ?_
      refine aIf_le hC hT (tgt := 69) rfl (by decide) (fun hc21 => ?_) (fun hc21 => ?_)
      · have hf := aIfT hf hc21
        refine aRun_ok hC hT 1 (cf' := (70, [(1, .int w2), (0, .ref 42)], [.int (0 : Int32), .int (5 : Int32), .ref 42], LAY, S)) (by rfl) ?_
        refine aLocs [1, 0] (lv' := [(0, .ref 42), (1, .int w2)]) rfl ?_
        exact X11_laySlips_42_b70_ok hC hF w2 (0 : Int32) (5 : Int32) S hf
      · have hf := aIfF hf hc21
        refine aRun_ok hC hT 2 (cf' := (70, [(1, .int w2), (0, .ref 42)], [.int (1 : Int32), .int (5 : Int32), .ref 42], LAY, S)) (by rfl) ?_
        refine aLocs [1, 0] (lv' := [(0, .ref 42), (1, .int w2)]) rfl ?_
        exact X11_laySlips_42_b70_ok hC hF w2 (1 : Int32) (5 : Int32) S hf
def X11_laySlips_42_b34 (N : Nat) (rec7 : Int32 → aSt → Option (aSt)) (v1 : Int32) (S : aSt) : Option (aSt) := (rec7 (v1 + (1 : Int32)) S)
set_option maxHeartbeats 4000000 in
set_option maxRecDepth 100000 in
theorem X11_laySlips_42_b34_ok {C : aC} {N : Nat} {rec7 : Int32 → aSt → Option (aSt)} (hC : aCx C M_X11_laySlips) {r : aSt} (hF : aFin C none LAY r 0 0) (hrec7 : ∀ (v1 : Int32) (S : aSt), rec7 v1 S = (some r) → aX C M_X11_laySlips 0 0 (7, [(0, .ref 42), (1, .int v1)], [], LAY, S)) (v1 : Int32) (S : aSt) (hf : X11_laySlips_42_b34 N rec7 v1 S = (some r)) : aX C M_X11_laySlips 0 0 (34, [(0, .ref 42), (1, .int v1)], [], LAY, S) := by
  have hT := ok_X11_laySlips
  unfold X11_laySlips_42_b34 at hf
  refine aRun_ok hC hT 2 (cf' := (7, [(1, .int (v1 + (1 : Int32))), (0, .ref 42)], [], LAY, S)) (by rfl) ?_
  refine aLocs [1, 0] (lv' := [(0, .ref 42), (1, .int (v1 + (1 : Int32)))]) rfl ?_
  exact hrec7 (v1 + (1 : Int32)) S hf
def X11_laySlips_42_b14 (N : Nat) (rec7 : Int32 → aSt → Option (aSt)) (rec14 : Int32 → Int32 → aSt → Option (aSt)) (v1 : Int32) (v2 : Int32) (S : aSt) : Option (aSt) := (if (S.1 42 5) ≤ v2 then (X11_laySlips_42_b34 N rec7 v1 S) else (Option.bind (X11_layKind_42 N v1 v2 S) (fun w27 => (rec14 v1 (v2 + (1 : Int32)) w27))))
set_option maxHeartbeats 4000000 in
set_option maxRecDepth 100000 in
theorem X11_laySlips_42_b14_ok {C : aC} {N : Nat} {rec7 : Int32 → aSt → Option (aSt)} {rec14 : Int32 → Int32 → aSt → Option (aSt)} (hC : aCx C M_X11_laySlips) {r : aSt} (hF : aFin C none LAY r 0 0) (hrec7 : ∀ (v1 : Int32) (S : aSt), rec7 v1 S = (some r) → aX C M_X11_laySlips 0 0 (7, [(0, .ref 42), (1, .int v1)], [], LAY, S)) (hrec14 : ∀ (v1 : Int32) (v2 : Int32) (S : aSt), rec14 v1 v2 S = (some r) → aX C M_X11_laySlips 0 0 (14, [(0, .ref 42), (1, .int v1), (2, .int v2)], [], LAY, S)) (v1 : Int32) (v2 : Int32) (S : aSt) (hf : X11_laySlips_42_b14 N rec7 rec14 v1 v2 S = (some r)) : aX C M_X11_laySlips 0 0 (14, [(0, .ref 42), (1, .int v1), (2, .int v2)], [], LAY, S) := by
  have hT := ok_X11_laySlips
  unfold X11_laySlips_42_b14 at hf
  refine aRun_ok hC hT 3 (cf' := (19, [(0, .ref 42), (1, .int v1), (2, .int v2)], [.int (S.1 42 5), .int v2], LAY, S)) (by rfl) ?_
  refine aCmp_ge hC hT (tgt := 34) rfl (by decide) (fun hc26 => ?_) (fun hc26 => ?_)
  · have hf := aIfT hf hc26
    refine aLocs [0, 1] (lv' := [(0, .ref 42), (1, .int v1)]) rfl ?_
    exact X11_laySlips_42_b34_ok hC hF hrec7 v1 S hf
  · have hf := aIfF hf hc26
    refine aRun_ok hC hT 3 (cf' := (25, [(0, .ref 42), (1, .int v1), (2, .int v2)], [.int v2, .int v1, .ref 42], LAY, S)) (by rfl) ?_
    obtain ⟨w27, ew28, hf⟩ := aBnE hf
    refine aCallV (b := 42) (As := [.int v1, .int v2]) (rest := []) hC hT rfl k_X11_laySlips_204.1 _ _ k_X11_laySlips_204.2 (by decide) (by rfl) (by rfl) (by rfl) (Nat.le_of_ble_eq_true rfl) (by decide) (J_X11_layKind_42 C.2.2.1 C.1 N v1 v2 S ew28) ?_
    refine aRun_ok hC hT 2 (cf' := (14, [(2, .int (v2 + (1 : Int32))), (0, .ref 42), (1, .int v1)], [], LAY, w27)) (by rfl) ?_
    refine aLocs [1, 2, 0] (lv' := [(0, .ref 42), (1, .int v1), (2, .int (v2 + (1 : Int32)))]) rfl ?_
    exact hrec14 v1 (v2 + (1 : Int32)) w27 hf
def X11_laySlips_42_l14 (N : Nat) (rec7 : Int32 → aSt → Option (aSt)) : Nat → Int32 → Int32 → aSt → Option (aSt)
  | 0 => fun _ _ _ => none
  | n + 1 => X11_laySlips_42_b14 N rec7 (X11_laySlips_42_l14 N rec7 n)
theorem X11_laySlips_42_l14_ok {C : aC} {N : Nat} {rec7 : Int32 → aSt → Option (aSt)} (hC : aCx C M_X11_laySlips) {r : aSt} (hF : aFin C none LAY r 0 0) (hrec7 : ∀ (v1 : Int32) (S : aSt), rec7 v1 S = (some r) → aX C M_X11_laySlips 0 0 (7, [(0, .ref 42), (1, .int v1)], [], LAY, S)) : ∀ (n : Nat) (v1 : Int32) (v2 : Int32) (S : aSt), X11_laySlips_42_l14 N rec7 n v1 v2 S = (some r) → aX C M_X11_laySlips 0 0 (14, [(0, .ref 42), (1, .int v1), (2, .int v2)], [], LAY, S)
  | 0, _, _, _,  h => nomatch (show (none : Option (aSt)) = some _ from h)
  | n + 1, v1, v2, S,  h => X11_laySlips_42_b14_ok hC hF hrec7 (fun v1 v2 S h => X11_laySlips_42_l14_ok hC hF hrec7 n v1 v2 S h) v1 v2 S h
def X11_laySlips_42_b7 (N : Nat) (rec7 : Int32 → aSt → Option (aSt)) (v1 : Int32) (S : aSt) : Option (aSt) := (if (5 : Int32) ≤ v1 then (X11_laySlips_42_b40 N S) else (X11_laySlips_42_l14 N rec7 N v1 (0 : Int32) S))
set_option maxHeartbeats 4000000 in
set_option maxRecDepth 100000 in
theorem X11_laySlips_42_b7_ok {C : aC} {N : Nat} {rec7 : Int32 → aSt → Option (aSt)} (hC : aCx C M_X11_laySlips) {r : aSt} (hF : aFin C none LAY r 0 0) (hrec7 : ∀ (v1 : Int32) (S : aSt), rec7 v1 S = (some r) → aX C M_X11_laySlips 0 0 (7, [(0, .ref 42), (1, .int v1)], [], LAY, S)) (v1 : Int32) (S : aSt) (hf : X11_laySlips_42_b7 N rec7 v1 S = (some r)) : aX C M_X11_laySlips 0 0 (7, [(0, .ref 42), (1, .int v1)], [], LAY, S) := by
  have hT := ok_X11_laySlips
  unfold X11_laySlips_42_b7 at hf
  refine aRun_ok hC hT 2 (cf' := (9, [(0, .ref 42), (1, .int v1)], [.int (5 : Int32), .int v1], LAY, S)) (by rfl) ?_
  refine aCmp_ge hC hT (tgt := 40) rfl (by decide) (fun hc1 => ?_) (fun hc1 => ?_)
  · have hf := aIfT hf hc1
    refine aLocs [0] (lv' := [(0, .ref 42)]) rfl ?_
    exact X11_laySlips_42_b40_ok hC hF S hf
  · have hf := aIfF hf hc1
    refine aRun_ok hC hT 2 (cf' := (14, [(2, .int (0 : Int32)), (0, .ref 42), (1, .int v1)], [], LAY, S)) (by rfl) ?_
    refine aLocs [1, 2, 0] (lv' := [(0, .ref 42), (1, .int v1), (2, .int (0 : Int32))]) rfl ?_
    exact X11_laySlips_42_l14_ok hC hF hrec7 N v1 (0 : Int32) S hf
def X11_laySlips_42_l7 (N : Nat) : Nat → Int32 → aSt → Option (aSt)
  | 0 => fun _ _ => none
  | n + 1 => X11_laySlips_42_b7 N (X11_laySlips_42_l7 N n)
theorem X11_laySlips_42_l7_ok {C : aC} {N : Nat} (hC : aCx C M_X11_laySlips) {r : aSt} (hF : aFin C none LAY r 0 0) : ∀ (n : Nat) (v1 : Int32) (S : aSt), X11_laySlips_42_l7 N n v1 S = (some r) → aX C M_X11_laySlips 0 0 (7, [(0, .ref 42), (1, .int v1)], [], LAY, S)
  | 0, _, _,  h => nomatch (show (none : Option (aSt)) = some _ from h)
  | n + 1, v1, S,  h => X11_laySlips_42_b7_ok hC hF (fun v1 S h => X11_laySlips_42_l7_ok hC hF n v1 S h) v1 S h
def X11_laySlips_42 (N : Nat) (S : aSt) : Option (aSt) := (X11_laySlips_42_l7 N N (0 : Int32) (aI S 42 23 (0 : Int32)))
set_option maxHeartbeats 4000000 in
set_option maxRecDepth 100000 in
theorem J_X11_laySlips_42 (l : Launch) (g : aWg) (N : Nat) (S : aSt) {r : aSt} (hf : X11_laySlips_42 N S = (some r)) : aJ l g yX11_laySlips M_X11_laySlips [.ref 42] LAY S none LAY r 0 0 := by
  refine aJ_of (by decide +kernel) rfl (Nat.le_of_ble_eq_true rfl) (fun h => nomatch h) ?_
  intro C hg hl hC hz hF
  subst hg; subst hl
  have hT := ok_X11_laySlips
  unfold X11_laySlips_42 at hf
  show aX C M_X11_laySlips 0 0 (0, [(0, .ref 42)], [], LAY, S)
  refine aRun_ok hC hT 5 (cf' := (7, [(1, .int (0 : Int32)), (0, .ref 42)], [], LAY, (aI S 42 23 (0 : Int32)))) (by rfl) ?_
  refine aLocs [1, 0] (lv' := [(0, .ref 42), (1, .int (0 : Int32))]) rfl ?_
  exact X11_laySlips_42_l7_ok hC hF N (0 : Int32) (aI S 42 23 (0 : Int32)) hf
def X11_hasDue_42 (a1 : Int32) (S : aSt) : Int32 := (if (((S.1 42 7) >>> (a1 &&& 31)) &&& (1 : Int32)) = (1 : Int32) then (1 : Int32) else (0 : Int32))
set_option maxHeartbeats 4000000 in
set_option maxRecDepth 100000 in
theorem J_X11_hasDue_42 (l : Launch) (g : aWg) (a1 : Int32) (S : aSt) {r : Int32} (hf : X11_hasDue_42 a1 S = r) : aJ l g yX11_hasDue M_X11_hasDue [.ref 42, .int a1] LAY S (some (.int r)) LAY S 0 0 := by
  refine aJ_of (by decide +kernel) rfl (Nat.le_of_ble_eq_true rfl) (fun h => nomatch h) ?_
  intro C hg hl hC hz hF
  subst hg; subst hl
  have hT := ok_X11_hasDue
  unfold X11_hasDue_42 at hf
  show aX C M_X11_hasDue 0 0 (0, [(0, .ref 42), (1, .int a1)], [], LAY, S)
  refine aRun_ok hC hT 7 (cf' := (9, [(0, .ref 42), (1, .int a1)], [.int (1 : Int32), .int (((S.1 42 7) >>> (a1 &&& 31)) &&& (1 : Int32))], LAY, S)) (by rfl) ?_
  refine aCmp_ne hC hT (tgt := 16) rfl (by decide) (fun hc1 => ?_) (fun hc1 => ?_)
  · have hf := aIfF hf hc1
    refine aRun_ok hC hT 1 (cf' := (17, [(0, .ref 42), (1, .int a1)], [.int (0 : Int32)], LAY, S)) (by rfl) ?_
    subst hf
    exact aRetB hC hT hF rfl (Or.inl rfl) rfl
  · have hf := aIfT hf hc1
    refine aRun_ok hC hT 2 (cf' := (17, [(0, .ref 42), (1, .int a1)], [.int (1 : Int32)], LAY, S)) (by rfl) ?_
    subst hf
    exact aRetB hC hT hF rfl (Or.inr rfl) rfl
def X11_offOf_42 (N : Nat) (a1 : Int32) (S : aSt) : Option (Int32) := (Option.bind (X11_outOf_42 N a1 S) (fun w1 => (if aIx a1 6 = true then some ((w1 - ((S.2.2 46) a1.toNatClampNeg))) else none)))
set_option maxHeartbeats 4000000 in
set_option maxRecDepth 100000 in
theorem J_X11_offOf_42 (l : Launch) (g : aWg) (N : Nat) (a1 : Int32) (S : aSt) {r : Int32} (hf : X11_offOf_42 N a1 S = (some r)) : aJ l g yX11_offOf M_X11_offOf [.ref 42, .int a1] LAY S (some (.int r)) LAY S 0 0 := by
  refine aJ_of (by decide +kernel) rfl (Nat.le_of_ble_eq_true rfl) (fun h => nomatch h) ?_
  intro C hg hl hC hz hF
  subst hg; subst hl
  have hT := ok_X11_offOf
  unfold X11_offOf_42 at hf
  show aX C M_X11_offOf 0 0 (0, [(0, .ref 42), (1, .int a1)], [], LAY, S)
  refine aRun_ok hC hT 2 (cf' := (2, [(0, .ref 42), (1, .int a1)], [.int a1, .ref 42], LAY, S)) (by rfl) ?_
  obtain ⟨w1, ew2, hf⟩ := aBnE hf
  refine aCallV (b := 42) (As := [.int a1]) (rest := []) hC hT rfl k_X11_offOf_155.1 _ _ k_X11_offOf_155.2 (by decide) (by rfl) (by rfl) (by rfl) (Nat.le_of_ble_eq_true rfl) (by decide) (J_X11_outOf_42 C.2.2.1 C.1 N a1 S ew2) ?_
  refine aRun_ok hC hT 3 (cf' := (10, [(0, .ref 42), (1, .int a1)], [.int a1, .ref 46, .int w1], LAY, S)) (by rfl) ?_
  obtain ⟨hin3, hf⟩ := aGdE hf
  refine aIald hC hT rfl (by decide) (by rfl) hin3 ?_
  refine aRun_ok hC hT 1 (cf' := (12, [(0, .ref 42), (1, .int a1)], [.int (w1 - ((S.2.2 46) a1.toNatClampNeg))], LAY, S)) (by rfl) ?_
  have e9 := Option.some.inj hf; subst e9
  exact aRetI hC hT hF rfl rfl
def X11_isNarrow_42_b129 (N : Nat) (S : aSt) (rec78 : Int32 → Int32 → Int32 → Int32 → Option (Int32)) (v1 : Int32) (v2 : Int32) (v4 : Int32) (s0 : Int32) : Option (Int32) := (rec78 v1 v2 s0 (v4 + (1 : Int32)))
set_option maxHeartbeats 4000000 in
set_option maxRecDepth 100000 in
theorem X11_isNarrow_42_b129_ok {C : aC} {N : Nat} {S : aSt} {rec78 : Int32 → Int32 → Int32 → Int32 → Option (Int32)} (hC : aCx C M_X11_isNarrow) {r : Int32} (hF : aFin C (some (.int r)) LAY S 0 0) (hrec78 : ∀ (v1 : Int32) (v2 : Int32) (v3 : Int32) (v4 : Int32), rec78 v1 v2 v3 v4 = (some r) → aX C M_X11_isNarrow 0 0 (78, [(0, .ref 42), (1, .int v1), (2, .int v2), (3, .int v3), (4, .int v4)], [], LAY, S)) (v1 : Int32) (v2 : Int32) (v4 : Int32) (s0 : Int32) (hf : X11_isNarrow_42_b129 N S rec78 v1 v2 v4 s0 = (some r)) : aX C M_X11_isNarrow 0 0 (129, [(0, .ref 42), (1, .int v1), (2, .int v2), (4, .int v4)], [.int s0], LAY, S) := by
  have hT := ok_X11_isNarrow
  unfold X11_isNarrow_42_b129 at hf
  refine aRun_ok hC hT 3 (cf' := (78, [(4, .int (v4 + (1 : Int32))), (3, .int s0), (0, .ref 42), (1, .int v1), (2, .int v2)], [], LAY, S)) (by rfl) ?_
  refine aLocs [2, 3, 4, 1, 0] (lv' := [(0, .ref 42), (1, .int v1), (2, .int v2), (3, .int s0), (4, .int (v4 + (1 : Int32)))]) rfl ?_
  exact hrec78 v1 v2 s0 (v4 + (1 : Int32)) hf
def X11_isNarrow_42_b124 (N : Nat) (S : aSt) (rec78 : Int32 → Int32 → Int32 → Int32 → Option (Int32)) (v1 : Int32) (v2 : Int32) (v4 : Int32) : Option (Int32) := (X11_isNarrow_42_b129 N S rec78 v1 v2 v4 (1 : Int32))
set_option maxHeartbeats 4000000 in
set_option maxRecDepth 100000 in
theorem X11_isNarrow_42_b124_ok {C : aC} {N : Nat} {S : aSt} {rec78 : Int32 → Int32 → Int32 → Int32 → Option (Int32)} (hC : aCx C M_X11_isNarrow) {r : Int32} (hF : aFin C (some (.int r)) LAY S 0 0) (hrec78 : ∀ (v1 : Int32) (v2 : Int32) (v3 : Int32) (v4 : Int32), rec78 v1 v2 v3 v4 = (some r) → aX C M_X11_isNarrow 0 0 (78, [(0, .ref 42), (1, .int v1), (2, .int v2), (3, .int v3), (4, .int v4)], [], LAY, S)) (v1 : Int32) (v2 : Int32) (v4 : Int32) (hf : X11_isNarrow_42_b124 N S rec78 v1 v2 v4 = (some r)) : aX C M_X11_isNarrow 0 0 (124, [(0, .ref 42), (1, .int v1), (2, .int v2), (4, .int v4)], [], LAY, S) := by
  have hT := ok_X11_isNarrow
  unfold X11_isNarrow_42_b124 at hf
  refine aRun_ok hC hT 2 (cf' := (129, [(0, .ref 42), (1, .int v1), (2, .int v2), (4, .int v4)], [.int (1 : Int32)], LAY, S)) (by rfl) ?_
  exact X11_isNarrow_42_b129_ok hC hF hrec78 v1 v2 v4 (1 : Int32) hf
def X11_isNarrow_42_b120 (N : Nat) (S : aSt) (rec78 : Int32 → Int32 → Int32 → Int32 → Option (Int32)) (v1 : Int32) (v2 : Int32) (v4 : Int32) (s0 : Int32) (s1 : Int32) : Option (Int32) := (if (s1 + s0) = (0 : Int32) then (X11_isNarrow_42_b124 N S rec78 v1 v2 v4) else (X11_isNarrow_42_b129 N S rec78 v1 v2 v4 (0 : Int32)))
set_option maxHeartbeats 4000000 in
set_option maxRecDepth 100000 in
theorem X11_isNarrow_42_b120_ok {C : aC} {N : Nat} {S : aSt} {rec78 : Int32 → Int32 → Int32 → Int32 → Option (Int32)} (hC : aCx C M_X11_isNarrow) {r : Int32} (hF : aFin C (some (.int r)) LAY S 0 0) (hrec78 : ∀ (v1 : Int32) (v2 : Int32) (v3 : Int32) (v4 : Int32), rec78 v1 v2 v3 v4 = (some r) → aX C M_X11_isNarrow 0 0 (78, [(0, .ref 42), (1, .int v1), (2, .int v2), (3, .int v3), (4, .int v4)], [], LAY, S)) (v1 : Int32) (v2 : Int32) (v4 : Int32) (s0 : Int32) (s1 : Int32) (hf : X11_isNarrow_42_b120 N S rec78 v1 v2 v4 s0 s1 = (some r)) : aX C M_X11_isNarrow 0 0 (120, [(0, .ref 42), (1, .int v1), (2, .int v2), (4, .int v4)], [.int s0, .int s1], LAY, S) := by
  have hT := ok_X11_isNarrow
  unfold X11_isNarrow_42_b120 at hf
  refine aRun_ok hC hT 1 (cf' := (121, [(0, .ref 42), (1, .int v1), (2, .int v2), (4, .int v4)], [.int (s1 + s0)], LAY, S)) (by rfl) ?_
  refine aIf_ne hC hT (tgt := 128) rfl (by decide) (fun hc19 => ?_) (fun hc19 => ?_)
  · have hf := aIfF hf hc19
    refine aRun_ok hC hT 1 (cf' := (129, [(0, .ref 42), (1, .int v1), (2, .int v2), (4, .int v4)], [.int (0 : Int32)], LAY, S)) (by rfl) ?_
    exact X11_isNarrow_42_b129_ok hC hF hrec78 v1 v2 v4 (0 : Int32) hf
  · have hf := aIfT hf hc19
    exact X11_isNarrow_42_b124_ok hC hF hrec78 v1 v2 v4 hf
def X11_isNarrow_42_b78 (N : Nat) (S : aSt) (rec78 : Int32 → Int32 → Int32 → Int32 → Option (Int32)) (v1 : Int32) (v2 : Int32) (v3 : Int32) (v4 : Int32) : Option (Int32) := (if (6 : Int32) ≤ v4 then (if v3 = 0 ∨ v3 = 1 then some (v3) else none) else (if v3 = (0 : Int32) then (if v3 = 0 ∨ v3 = 1 then some (v3) else none) else (aLet (X11_hasDue_42 v4 S) (fun w13 => (if w13 = (0 : Int32) then (X11_isNarrow_42_b124 N S rec78 v1 v2 v4) else (Option.bind (X11_offOf_42 N v4 S) (fun w16 => (if v4 = v2 then (if aIx v1 2048 = true then (X11_isNarrow_42_b120 N S rec78 v1 v2 v4 ((S.2.2 53) v1.toNatClampNeg) w16) else none) else (X11_isNarrow_42_b120 N S rec78 v1 v2 v4 (0 : Int32) w16)))))))))
set_option maxHeartbeats 4000000 in
set_option maxRecDepth 100000 in
theorem X11_isNarrow_42_b78_ok {C : aC} {N : Nat} {S : aSt} {rec78 : Int32 → Int32 → Int32 → Int32 → Option (Int32)} (hC : aCx C M_X11_isNarrow) {r : Int32} (hF : aFin C (some (.int r)) LAY S 0 0) (hrec78 : ∀ (v1 : Int32) (v2 : Int32) (v3 : Int32) (v4 : Int32), rec78 v1 v2 v3 v4 = (some r) → aX C M_X11_isNarrow 0 0 (78, [(0, .ref 42), (1, .int v1), (2, .int v2), (3, .int v3), (4, .int v4)], [], LAY, S)) (v1 : Int32) (v2 : Int32) (v3 : Int32) (v4 : Int32) (hf : X11_isNarrow_42_b78 N S rec78 v1 v2 v3 v4 = (some r)) : aX C M_X11_isNarrow 0 0 (78, [(0, .ref 42), (1, .int v1), (2, .int v2), (3, .int v3), (4, .int v4)], [], LAY, S) := by
  have hT := ok_X11_isNarrow
  unfold X11_isNarrow_42_b78 at hf
  refine aRun_ok hC hT 2 (cf' := (82, [(0, .ref 42), (1, .int v1), (2, .int v2), (3, .int v3), (4, .int v4)], [.int (6 : Int32), .int v4], LAY, S)) (by rfl) ?_
  refine aCmp_ge hC hT (tgt := 136) rfl (by decide) (fun hc9 => ?_) (fun hc9 => ?_)
  · have hf := aIfT hf hc9
    refine aRun_ok hC hT 1 (cf' := (137, [(0, .ref 42), (1, .int v1), (2, .int v2), (3, .int v3), (4, .int v4)], [.int v3], LAY, S)) (by rfl) ?_
    obtain ⟨hb10, hf⟩ := aGdE hf
    have e9 := Option.some.inj hf; subst e9
    exact aRetB hC hT hF rfl hb10 rfl
  · have hf := aIfF hf hc9
    refine aRun_ok hC hT 1 (cf' := (86, [(0, .ref 42), (1, .int v1), (2, .int v2), (3, .int v3), (4, .int v4)], [.int v3], LAY, S)) (by rfl) ?_
    refine aIf_eq hC hT (tgt := 136) rfl (by decide) (fun hc11 => ?_) (fun hc11 => ?_)
    · have hf := aIfT hf hc11
      refine aRun_ok hC hT 1 (cf' := (137, [(0, .ref 42), (1, .int v1), (2, .int v2), (3, .int v3), (4, .int v4)], [.int v3], LAY, S)) (by rfl) ?_
      obtain ⟨hb12, hf⟩ := aGdE hf
      have e9 := Option.some.inj hf; subst e9
      exact aRetB hC hT hF rfl hb12 rfl
    · have hf := aIfF hf hc11
      refine aRun_ok hC hT 2 (cf' := (92, [(0, .ref 42), (1, .int v1), (2, .int v2), (3, .int v3), (4, .int v4)], [.int v4, .ref 42], LAY, S)) (by rfl) ?_
      obtain ⟨w13, ew14, hf⟩ := aLetE hf
      refine aCallV (b := 42) (As := [.int v4]) (rest := []) hC hT rfl k_X11_isNarrow_159.1 _ _ k_X11_isNarrow_159.2 (by decide) (by rfl) (by rfl) (by rfl) (Nat.le_of_ble_eq_true rfl) (by decide) (J_X11_hasDue_42 C.2.2.1 C.1 v4 S ew14) ?_
      refine aIf_eq hC hT (tgt := 124) rfl (by decide) (fun hc15 => ?_) (fun hc15 => ?_)
      · have hf := aIfT hf hc15
        refine aLocs [0, 1, 2, 4] (lv' := [(0, .ref 42), (1, .int v1), (2, .int v2), (4, .int v4)]) rfl ?_
        exact X11_isNarrow_42_b124_ok hC hF hrec78 v1 v2 v4 hf
      · have hf := aIfF hf hc15
        refine aRun_ok hC hT 2 (cf' := (101, [(0, .ref 42), (1, .int v1), (2, .int v2), (3, .int v3), (4, .int v4)], [.int v4, .ref 42], LAY, S)) (by rfl) ?_
        obtain ⟨w16, ew17, hf⟩ := aBnE hf
        refine aCallV (b := 42) (As := [.int v4]) (rest := []) hC hT rfl k_X11_isNarrow_162.1 _ _ k_X11_isNarrow_162.2 (by decide) (by rfl) (by rfl) (by rfl) (Nat.le_of_ble_eq_true rfl) (by decide) (J_X11_offOf_42 C.2.2.1 C.1 N v4 S ew17) ?_
        refine aRun_ok hC hT 2 (cf' := (107, [(0, .ref 42), (1, .int v1), (2, .int v2), (3, .int v3), (4, .int v4)], [.int v2, .int v4, .int w16], LAY, S)) (by rfl) ?_
        refine aCmp_ne hC hT (tgt := 119) rfl (by decide) (fun hc18 => ?_) (fun hc18 => ?_)
        · have hf := aIfF hf hc18
          refine aRun_ok hC hT 1 (cf' := (120, [(0, .ref 42), (1, .int v1), (2, .int v2), (3, .int v3), (4, .int v4)], [.int (0 : Int32), .int w16], LAY, S)) (by rfl) ?_
          refine aLocs [0, 1, 2, 4] (lv' := [(0, .ref 42), (1, .int v1), (2, .int v2), (4, .int v4)]) rfl ?_
          exact X11_isNarrow_42_b120_ok hC hF hrec78 v1 v2 v4 (0 : Int32) w16 hf
        · have hf := aIfT hf hc18
          refine aRun_ok hC hT 3 (cf' := (115, [(0, .ref 42), (1, .int v1), (2, .int v2), (3, .int v3), (4, .int v4)], [.int v1, .ref 53, .int w16], LAY, S)) (by rfl) ?_
          obtain ⟨hin20, hf⟩ := aGdE hf
          refine aIald hC hT rfl (by decide) (by rfl) hin20 ?_
          refine aRun_ok hC hT 1 (cf' := (120, [(0, .ref 42), (1, .int v1), (2, .int v2), (3, .int v3), (4, .int v4)], [.int ((S.2.2 53) v1.toNatClampNeg), .int w16], LAY, S)) (by rfl) ?_
          refine aLocs [0, 1, 2, 4] (lv' := [(0, .ref 42), (1, .int v1), (2, .int v2), (4, .int v4)]) rfl ?_
          exact X11_isNarrow_42_b120_ok hC hF hrec78 v1 v2 v4 ((S.2.2 53) v1.toNatClampNeg) w16 hf
def X11_isNarrow_42_l78 (N : Nat) (S : aSt) : Nat → Int32 → Int32 → Int32 → Int32 → Option (Int32)
  | 0 => fun _ _ _ _ => none
  | n + 1 => X11_isNarrow_42_b78 N S (X11_isNarrow_42_l78 N S n)
theorem X11_isNarrow_42_l78_ok {C : aC} {N : Nat} {S : aSt} (hC : aCx C M_X11_isNarrow) {r : Int32} (hF : aFin C (some (.int r)) LAY S 0 0) : ∀ (n : Nat) (v1 : Int32) (v2 : Int32) (v3 : Int32) (v4 : Int32), X11_isNarrow_42_l78 N S n v1 v2 v3 v4 = (some r) → aX C M_X11_isNarrow 0 0 (78, [(0, .ref 42), (1, .int v1), (2, .int v2), (3, .int v3), (4, .int v4)], [], LAY, S)
  | 0, _, _, _, _,  h => nomatch (show (none : Option (Int32)) = some _ from h)
  | n + 1, v1, v2, v3, v4,  h => X11_isNarrow_42_b78_ok hC hF (fun v1 v2 v3 v4 h => X11_isNarrow_42_l78_ok hC hF n v1 v2 v3 v4 h) v1 v2 v3 v4 h
def X11_isNarrow_42_b74 (N : Nat) (S : aSt) (v1 : Int32) (v2 : Int32) (s0 : Int32) : Option (Int32) := (X11_isNarrow_42_l78 N S N v1 v2 s0 (0 : Int32))
set_option maxHeartbeats 4000000 in
set_option maxRecDepth 100000 in
theorem X11_isNarrow_42_b74_ok {C : aC} {N : Nat} {S : aSt} (hC : aCx C M_X11_isNarrow) {r : Int32} (hF : aFin C (some (.int r)) LAY S 0 0) (v1 : Int32) (v2 : Int32) (s0 : Int32) (hf : X11_isNarrow_42_b74 N S v1 v2 s0 = (some r)) : aX C M_X11_isNarrow 0 0 (74, [(0, .ref 42), (1, .int v1), (2, .int v2)], [.int s0], LAY, S) := by
  have hT := ok_X11_isNarrow
  unfold X11_isNarrow_42_b74 at hf
  refine aRun_ok hC hT 3 (cf' := (78, [(4, .int (0 : Int32)), (3, .int s0), (0, .ref 42), (1, .int v1), (2, .int v2)], [], LAY, S)) (by rfl) ?_
  refine aLocs [2, 3, 4, 1, 0] (lv' := [(0, .ref 42), (1, .int v1), (2, .int v2), (3, .int s0), (4, .int (0 : Int32))]) rfl ?_
  exact X11_isNarrow_42_l78_ok hC hF N v1 v2 s0 (0 : Int32) hf
def X11_isNarrow_42_b69 (N : Nat) (S : aSt) (v1 : Int32) (v2 : Int32) : Option (Int32) := (X11_isNarrow_42_b74 N S v1 v2 (1 : Int32))
set_option maxHeartbeats 4000000 in
set_option maxRecDepth 100000 in
theorem X11_isNarrow_42_b69_ok {C : aC} {N : Nat} {S : aSt} (hC : aCx C M_X11_isNarrow) {r : Int32} (hF : aFin C (some (.int r)) LAY S 0 0) (v1 : Int32) (v2 : Int32) (hf : X11_isNarrow_42_b69 N S v1 v2 = (some r)) : aX C M_X11_isNarrow 0 0 (69, [(0, .ref 42), (1, .int v1), (2, .int v2)], [], LAY, S) := by
  have hT := ok_X11_isNarrow
  unfold X11_isNarrow_42_b69 at hf
  refine aRun_ok hC hT 2 (cf' := (74, [(0, .ref 42), (1, .int v1), (2, .int v2)], [.int (1 : Int32)], LAY, S)) (by rfl) ?_
  exact X11_isNarrow_42_b74_ok hC hF v1 v2 (1 : Int32) hf
def X11_isNarrow_42_b49 (N : Nat) (S : aSt) (v1 : Int32) (s0 : Int32) : Option (Int32) := (if aIx v1 2048 = true then (if ((S.2.2 50) v1.toNatClampNeg) = (5 : Int32) then (if (S.1 42 7) = (63 : Int32) then (X11_isNarrow_42_b74 N S v1 s0 (0 : Int32)) else (X11_isNarrow_42_b69 N S v1 s0)) else (X11_isNarrow_42_b69 N S v1 s0)) else none)
set_option maxHeartbeats 4000000 in
set_option maxRecDepth 100000 in
theorem X11_isNarrow_42_b49_ok {C : aC} {N : Nat} {S : aSt} (hC : aCx C M_X11_isNarrow) {r : Int32} (hF : aFin C (some (.int r)) LAY S 0 0) (v1 : Int32) (s0 : Int32) (hf : X11_isNarrow_42_b49 N S v1 s0 = (some r)) : aX C M_X11_isNarrow 0 0 (49, [(0, .ref 42), (1, .int v1)], [.int s0], LAY, S) := by
  have hT := ok_X11_isNarrow
  unfold X11_isNarrow_42_b49 at hf
  refine aRun_ok hC hT 4 (cf' := (55, [(2, .int s0), (0, .ref 42), (1, .int v1)], [.int v1, .ref 50], LAY, S)) (by rfl) ?_
  obtain ⟨hin7, hf⟩ := aGdE hf
  refine aIald hC hT rfl (by decide) (by rfl) hin7 ?_
  refine aRun_ok hC hT 1 (cf' := (57, [(2, .int s0), (0, .ref 42), (1, .int v1)], [.int (5 : Int32), .int ((S.2.2 50) v1.toNatClampNeg)], LAY, S)) (by rfl) ?_
  refine aCmp_ne hC hT (tgt := 69) rfl (by decide) (fun hc8 => ?_) (fun hc8 => ?_)
  · have hf := aIfF hf hc8
    refine aLocs [1, 2, 0] (lv' := [(0, .ref 42), (1, .int v1), (2, .int s0)]) rfl ?_
    exact X11_isNarrow_42_b69_ok hC hF v1 s0 hf
  · have hf := aIfT hf hc8
    refine aRun_ok hC hT 3 (cf' := (66, [(2, .int s0), (0, .ref 42), (1, .int v1)], [.int (63 : Int32), .int (S.1 42 7)], LAY, S)) (by rfl) ?_
    refine aCmp_eq hC hT (tgt := 73) rfl (by decide) (fun hc21 => ?_) (fun hc21 => ?_)
    · have hf := aIfT hf hc21
      refine aRun_ok hC hT 1 (cf' := (74, [(2, .int s0), (0, .ref 42), (1, .int v1)], [.int (0 : Int32)], LAY, S)) (by rfl) ?_
      refine aLocs [1, 2, 0] (lv' := [(0, .ref 42), (1, .int v1), (2, .int s0)]) rfl ?_
      exact X11_isNarrow_42_b74_ok hC hF v1 s0 (0 : Int32) hf
    · have hf := aIfF hf hc21
      refine aLocs [1, 2, 0] (lv' := [(0, .ref 42), (1, .int v1), (2, .int s0)]) rfl ?_
      exact X11_isNarrow_42_b69_ok hC hF v1 s0 hf
def X11_isNarrow_42 (N : Nat) (a1 : Int32) (S : aSt) : Option (Int32) := (if aIx a1 2048 = true then (if ((S.2.2 50) a1.toNatClampNeg) = (5 : Int32) then (X11_isNarrow_42_b49 N S a1 ((-1) : Int32)) else (if aIx a1 2048 = true then (if ((S.2.2 50) a1.toNatClampNeg) = (6 : Int32) then (if aIx a1 2048 = true then (X11_isNarrow_42_b49 N S a1 ((S.2.2 51) a1.toNatClampNeg)) else none) else (if aIx a1 2048 = true then (if aIx (((5 : Int32) * ((S.2.2 51) a1.toNatClampNeg)) + (4 : Int32)) 150 = true then (X11_isNarrow_42_b49 N S a1 ((S.2.2 45) (((5 : Int32) * ((S.2.2 51) a1.toNatClampNeg)) + (4 : Int32)).toNatClampNeg)) else none) else none)) else none)) else none)
set_option maxHeartbeats 4000000 in
set_option maxRecDepth 100000 in
theorem J_X11_isNarrow_42 (l : Launch) (g : aWg) (N : Nat) (a1 : Int32) (S : aSt) {r : Int32} (hf : X11_isNarrow_42 N a1 S = (some r)) : aJ l g yX11_isNarrow M_X11_isNarrow [.ref 42, .int a1] LAY S (some (.int r)) LAY S 0 0 := by
  refine aJ_of (by decide +kernel) rfl (Nat.le_of_ble_eq_true rfl) (fun h => nomatch h) ?_
  intro C hg hl hC hz hF
  subst hg; subst hl
  have hT := ok_X11_isNarrow
  unfold X11_isNarrow_42 at hf
  show aX C M_X11_isNarrow 0 0 (0, [(0, .ref 42), (1, .int a1)], [], LAY, S)
  refine aRun_ok hC hT 3 (cf' := (5, [(0, .ref 42), (1, .int a1)], [.int a1, .ref 50], LAY, S)) (by rfl) ?_
  obtain ⟨hin1, hf⟩ := aGdE hf
  refine aIald hC hT rfl (by decide) (by rfl) hin1 ?_
  refine aRun_ok hC hT 1 (cf' := (7, [(0, .ref 42), (1, .int a1)], [.int (5 : Int32), .int ((S.2.2 50) a1.toNatClampNeg)], LAY, S)) (by rfl) ?_
  refine aCmp_ne hC hT (tgt := 14) rfl (by decide) (fun hc2 => ?_) (fun hc2 => ?_)
  · have hf := aIfF hf hc2
    refine aRun_ok hC hT 3 (cf' := (19, [(0, .ref 42), (1, .int a1)], [.int a1, .ref 50], LAY, S)) (by rfl) ?_
    obtain ⟨hin3, hf⟩ := aGdE hf
    refine aIald hC hT rfl (by decide) (by rfl) hin3 ?_
    refine aRun_ok hC hT 1 (cf' := (22, [(0, .ref 42), (1, .int a1)], [.int (6 : Int32), .int ((S.2.2 50) a1.toNatClampNeg)], LAY, S)) (by rfl) ?_
    refine aCmp_ne hC hT (tgt := 34) rfl (by decide) (fun hc4 => ?_) (fun hc4 => ?_)
    · have hf := aIfF hf hc4
      refine aRun_ok hC hT 6 (cf' := (44, [(0, .ref 42), (1, .int a1)], [.int a1, .ref 51, .int (5 : Int32), .ref 45], LAY, S)) (by rfl) ?_
      obtain ⟨hin5, hf⟩ := aGdE hf
      refine aIald hC hT rfl (by decide) (by rfl) hin5 ?_
      refine aRun_ok hC hT 3 (cf' := (48, [(0, .ref 42), (1, .int a1)], [.int (((5 : Int32) * ((S.2.2 51) a1.toNatClampNeg)) + (4 : Int32)), .ref 45], LAY, S)) (by rfl) ?_
      obtain ⟨hin6, hf⟩ := aGdE hf
      refine aIald hC hT rfl (by decide) (by rfl) hin6 ?_
      exact X11_isNarrow_42_b49_ok hC hF a1 ((S.2.2 45) (((5 : Int32) * ((S.2.2 51) a1.toNatClampNeg)) + (4 : Int32)).toNatClampNeg) hf
    · have hf := aIfT hf hc4
      refine aRun_ok hC hT 3 (cf' := (30, [(0, .ref 42), (1, .int a1)], [.int a1, .ref 51], LAY, S)) (by rfl) ?_
      obtain ⟨hin22, hf⟩ := aGdE hf
      refine aIald hC hT rfl (by decide) (by rfl) hin22 ?_
      refine aRun_ok hC hT 1 (cf' := (49, [(0, .ref 42), (1, .int a1)], [.int ((S.2.2 51) a1.toNatClampNeg)], LAY, S)) (by rfl) ?_
      exact X11_isNarrow_42_b49_ok hC hF a1 ((S.2.2 51) a1.toNatClampNeg) hf
  · have hf := aIfT hf hc2
    refine aRun_ok hC hT 2 (cf' := (49, [(0, .ref 42), (1, .int a1)], [.int ((-1) : Int32)], LAY, S)) (by rfl) ?_
    exact X11_isNarrow_42_b49_ok hC hF a1 ((-1) : Int32) hf
def X11_layOnes_42_b72 (N : Nat) (rec17 : Int32 → Int32 → Int32 → aSt → Option (aSt)) (v1 : Int32) (v2 : Int32) (v3 : Int32) (S : aSt) : Option (aSt) := (rec17 v1 v2 (v3 + (1 : Int32)) S)
set_option maxHeartbeats 4000000 in
set_option maxRecDepth 100000 in
theorem X11_layOnes_42_b72_ok {C : aC} {N : Nat} {rec17 : Int32 → Int32 → Int32 → aSt → Option (aSt)} (hC : aCx C M_X11_layOnes) {r : aSt} (hF : aFin C none LAY r 0 0) (hrec17 : ∀ (v1 : Int32) (v2 : Int32) (v3 : Int32) (S : aSt), rec17 v1 v2 v3 S = (some r) → aX C M_X11_layOnes 0 0 (17, [(0, .ref 42), (1, .int v1), (2, .int v2), (3, .int v3)], [], LAY, S)) (v1 : Int32) (v2 : Int32) (v3 : Int32) (S : aSt) (hf : X11_layOnes_42_b72 N rec17 v1 v2 v3 S = (some r)) : aX C M_X11_layOnes 0 0 (72, [(0, .ref 42), (1, .int v1), (2, .int v2), (3, .int v3)], [], LAY, S) := by
  have hT := ok_X11_layOnes
  unfold X11_layOnes_42_b72 at hf
  refine aRun_ok hC hT 2 (cf' := (17, [(3, .int (v3 + (1 : Int32))), (0, .ref 42), (1, .int v1), (2, .int v2)], [], LAY, S)) (by rfl) ?_
  refine aLocs [1, 2, 3, 0] (lv' := [(0, .ref 42), (1, .int v1), (2, .int v2), (3, .int (v3 + (1 : Int32)))]) rfl ?_
  exact hrec17 v1 v2 (v3 + (1 : Int32)) S hf
def X11_layOnes_42_b52 (N : Nat) (rec17 : Int32 → Int32 → Int32 → aSt → Option (aSt)) (v1 : Int32) (v2 : Int32) (v3 : Int32) (S : aSt) : Option (aSt) := (if aIx (S.1 42 25) 2048 = true then (X11_layOnes_42_b72 N rec17 v1 v2 v3 (aI (aA S 55 (upd (S.2.2 55) (S.1 42 25).toNatClampNeg v3)) 42 25 ((S.1 42 25) + (1 : Int32)))) else none)
set_option maxHeartbeats 4000000 in
set_option maxRecDepth 100000 in
theorem X11_layOnes_42_b52_ok {C : aC} {N : Nat} {rec17 : Int32 → Int32 → Int32 → aSt → Option (aSt)} (hC : aCx C M_X11_layOnes) {r : aSt} (hF : aFin C none LAY r 0 0) (hrec17 : ∀ (v1 : Int32) (v2 : Int32) (v3 : Int32) (S : aSt), rec17 v1 v2 v3 S = (some r) → aX C M_X11_layOnes 0 0 (17, [(0, .ref 42), (1, .int v1), (2, .int v2), (3, .int v3)], [], LAY, S)) (v1 : Int32) (v2 : Int32) (v3 : Int32) (S : aSt) (hf : X11_layOnes_42_b52 N rec17 v1 v2 v3 S = (some r)) : aX C M_X11_layOnes 0 0 (52, [(0, .ref 42), (1, .int v1), (2, .int v2), (3, .int v3)], [], LAY, S) := by
  have hT := ok_X11_layOnes
  unfold X11_layOnes_42_b52 at hf
  refine aRun_ok hC hT 5 (cf' := (61, [(0, .ref 42), (1, .int v1), (2, .int v2), (3, .int v3)], [.int v3, .int (S.1 42 25), .ref 55], LAY, S)) (by rfl) ?_
  obtain ⟨hin10, hf⟩ := aGdE hf
  refine aIast hC hT rfl (by decide) (by rfl) hin10 ?_
  refine aRun_ok hC hT 6 (cf' := (72, [(0, .ref 42), (1, .int v1), (2, .int v2), (3, .int v3)], [], LAY, (aI (aA S 55 (upd (S.2.2 55) (S.1 42 25).toNatClampNeg v3)) 42 25 ((S.1 42 25) + (1 : Int32))))) (by rfl) ?_
  exact X11_layOnes_42_b72_ok hC hF hrec17 v1 v2 v3 (aI (aA S 55 (upd (S.2.2 55) (S.1 42 25).toNatClampNeg v3)) 42 25 ((S.1 42 25) + (1 : Int32))) hf
def X11_layOnes_42_b17 (N : Nat) (rec17 : Int32 → Int32 → Int32 → aSt → Option (aSt)) (v1 : Int32) (v2 : Int32) (v3 : Int32) (S : aSt) : Option (aSt) := (if (S.1 42 23) ≤ v3 then some (S) else (if v2 = (0 : Int32) then (X11_layOnes_42_b72 N rec17 v1 v2 v3 S) else (if aIx v3 2048 = true then (if ((S.2.2 53) v3.toNatClampNeg) = (-v2) then (if v1 = (0 : Int32) then (X11_layOnes_42_b52 N rec17 v1 v2 v3 S) else (Option.bind (X11_isNarrow_42 N v3 S) (fun w11 => (if w11 = (0 : Int32) then (X11_layOnes_42_b72 N rec17 v1 v2 v3 S) else (X11_layOnes_42_b52 N rec17 v1 v2 v3 S))))) else (X11_layOnes_42_b72 N rec17 v1 v2 v3 S)) else none)))
set_option maxHeartbeats 4000000 in
set_option maxRecDepth 100000 in
theorem X11_layOnes_42_b17_ok {C : aC} {N : Nat} {rec17 : Int32 → Int32 → Int32 → aSt → Option (aSt)} (hC : aCx C M_X11_layOnes) {r : aSt} (hF : aFin C none LAY r 0 0) (hrec17 : ∀ (v1 : Int32) (v2 : Int32) (v3 : Int32) (S : aSt), rec17 v1 v2 v3 S = (some r) → aX C M_X11_layOnes 0 0 (17, [(0, .ref 42), (1, .int v1), (2, .int v2), (3, .int v3)], [], LAY, S)) (v1 : Int32) (v2 : Int32) (v3 : Int32) (S : aSt) (hf : X11_layOnes_42_b17 N rec17 v1 v2 v3 S = (some r)) : aX C M_X11_layOnes 0 0 (17, [(0, .ref 42), (1, .int v1), (2, .int v2), (3, .int v3)], [], LAY, S) := by
  have hT := ok_X11_layOnes
  unfold X11_layOnes_42_b17 at hf
  refine aRun_ok hC hT 3 (cf' := (22, [(0, .ref 42), (1, .int v1), (2, .int v2), (3, .int v3)], [.int (S.1 42 23), .int v3], LAY, S)) (by rfl) ?_
  refine aCmp_ge hC hT (tgt := 78) rfl (by decide) (fun hc5 => ?_) (fun hc5 => ?_)
  · have hf := aIfT hf hc5
    have e9 := Option.some.inj hf; subst e9
    exact aRetV hC hT hF rfl rfl
  · have hf := aIfF hf hc5
    refine aRun_ok hC hT 1 (cf' := (26, [(0, .ref 42), (1, .int v1), (2, .int v2), (3, .int v3)], [.int v2], LAY, S)) (by rfl) ?_
    refine aIf_eq hC hT (tgt := 72) rfl (by decide) (fun hc6 => ?_) (fun hc6 => ?_)
    · have hf := aIfT hf hc6
      exact X11_layOnes_42_b72_ok hC hF hrec17 v1 v2 v3 S hf
    · have hf := aIfF hf hc6
      refine aRun_ok hC hT 3 (cf' := (34, [(0, .ref 42), (1, .int v1), (2, .int v2), (3, .int v3)], [.int v3, .ref 53], LAY, S)) (by rfl) ?_
      obtain ⟨hin7, hf⟩ := aGdE hf
      refine aIald hC hT rfl (by decide) (by rfl) hin7 ?_
      refine aRun_ok hC hT 2 (cf' := (37, [(0, .ref 42), (1, .int v1), (2, .int v2), (3, .int v3)], [.int (-v2), .int ((S.2.2 53) v3.toNatClampNeg)], LAY, S)) (by rfl) ?_
      refine aCmp_ne hC hT (tgt := 72) rfl (by decide) (fun hc8 => ?_) (fun hc8 => ?_)
      · have hf := aIfF hf hc8
        exact X11_layOnes_42_b72_ok hC hF hrec17 v1 v2 v3 S hf
      · have hf := aIfT hf hc8
        refine aRun_ok hC hT 1 (cf' := (41, [(0, .ref 42), (1, .int v1), (2, .int v2), (3, .int v3)], [.int v1], LAY, S)) (by rfl) ?_
        refine aIf_eq hC hT (tgt := 52) rfl (by decide) (fun hc9 => ?_) (fun hc9 => ?_)
        · have hf := aIfT hf hc9
          exact X11_layOnes_42_b52_ok hC hF hrec17 v1 v2 v3 S hf
        · have hf := aIfF hf hc9
          refine aRun_ok hC hT 2 (cf' := (46, [(0, .ref 42), (1, .int v1), (2, .int v2), (3, .int v3)], [.int v3, .ref 42], LAY, S)) (by rfl) ?_
          obtain ⟨w11, ew12, hf⟩ := aBnE hf
          refine aCallV (b := 42) (As := [.int v3]) (rest := []) hC hT rfl k_X11_layOnes_220.1 _ _ k_X11_layOnes_220.2 (by decide) (by rfl) (by rfl) (by rfl) (Nat.le_of_ble_eq_true rfl) (by decide) (J_X11_isNarrow_42 C.2.2.1 C.1 N v3 S ew12) ?_
          refine aIf_eq hC hT (tgt := 72) rfl (by decide) (fun hc13 => ?_) (fun hc13 => ?_)
          · have hf := aIfT hf hc13
            exact X11_layOnes_42_b72_ok hC hF hrec17 v1 v2 v3 S hf
          · have hf := aIfF hf hc13
            exact X11_layOnes_42_b52_ok hC hF hrec17 v1 v2 v3 S hf
def X11_layOnes_42_l17 (N : Nat) : Nat → Int32 → Int32 → Int32 → aSt → Option (aSt)
  | 0 => fun _ _ _ _ => none
  | n + 1 => X11_layOnes_42_b17 N (X11_layOnes_42_l17 N n)
theorem X11_layOnes_42_l17_ok {C : aC} {N : Nat} (hC : aCx C M_X11_layOnes) {r : aSt} (hF : aFin C none LAY r 0 0) : ∀ (n : Nat) (v1 : Int32) (v2 : Int32) (v3 : Int32) (S : aSt), X11_layOnes_42_l17 N n v1 v2 v3 S = (some r) → aX C M_X11_layOnes 0 0 (17, [(0, .ref 42), (1, .int v1), (2, .int v2), (3, .int v3)], [], LAY, S)
  | 0, _, _, _, _,  h => nomatch (show (none : Option (aSt)) = some _ from h)
  | n + 1, v1, v2, v3, S,  h => X11_layOnes_42_b17_ok hC hF (fun v1 v2 v3 S h => X11_layOnes_42_l17_ok hC hF n v1 v2 v3 S h) v1 v2 v3 S h
def X11_layOnes_42 (N : Nat) (a1 : Int32) (S : aSt) : Option (aSt) := (Option.bind (X11_laySlips_42 N S) (fun w1 => (Option.bind (X11_outOf_42 N ((-1) : Int32) w1) (fun w3 => (X11_layOnes_42_l17 N N a1 w3 (0 : Int32) (aI w1 42 25 (0 : Int32)))))))
set_option maxHeartbeats 4000000 in
set_option maxRecDepth 100000 in
theorem J_X11_layOnes_42 (l : Launch) (g : aWg) (N : Nat) (a1 : Int32) (S : aSt) {r : aSt} (hf : X11_layOnes_42 N a1 S = (some r)) : aJ l g yX11_layOnes M_X11_layOnes [.ref 42, .int a1] LAY S none LAY r 0 0 := by
  refine aJ_of (by decide +kernel) rfl (Nat.le_of_ble_eq_true rfl) (fun h => nomatch h) ?_
  intro C hg hl hC hz hF
  subst hg; subst hl
  have hT := ok_X11_layOnes
  unfold X11_layOnes_42 at hf
  show aX C M_X11_layOnes 0 0 (0, [(0, .ref 42), (1, .int a1)], [], LAY, S)
  refine aRun_ok hC hT 1 (cf' := (1, [(0, .ref 42), (1, .int a1)], [.ref 42], LAY, S)) (by rfl) ?_
  obtain ⟨w1, ew2, hf⟩ := aBnE hf
  refine aCallV (b := 42) (As := []) (rest := []) hC hT rfl k_X11_layOnes_214.1 _ _ k_X11_layOnes_214.2 (by decide) (by rfl) (by rfl) (by rfl) (Nat.le_of_ble_eq_true rfl) (by decide) (J_X11_laySlips_42 C.2.2.1 C.1 N  S ew2) ?_
  refine aRun_ok hC hT 2 (cf' := (6, [(0, .ref 42), (1, .int a1)], [.int ((-1) : Int32), .ref 42], LAY, w1)) (by rfl) ?_
  obtain ⟨w3, ew4, hf⟩ := aBnE hf
  refine aCallV (b := 42) (As := [.int ((-1) : Int32)]) (rest := []) hC hT rfl k_X11_layOnes_155.1 _ _ k_X11_layOnes_155.2 (by decide) (by rfl) (by rfl) (by rfl) (Nat.le_of_ble_eq_true rfl) (by decide) (J_X11_outOf_42 C.2.2.1 C.1 N ((-1) : Int32) w1 ew4) ?_
  refine aRun_ok hC hT 6 (cf' := (17, [(3, .int (0 : Int32)), (2, .int w3), (0, .ref 42), (1, .int a1)], [], LAY, (aI w1 42 25 (0 : Int32)))) (by rfl) ?_
  refine aLocs [2, 3, 1, 0] (lv' := [(0, .ref 42), (1, .int a1), (2, .int w3), (3, .int (0 : Int32))]) rfl ?_
  exact X11_layOnes_42_l17_ok hC hF N a1 w3 (0 : Int32) (aI w1 42 25 (0 : Int32)) hf
def X11_isPart (N : Nat) (a0 : Int32) : Option (Int32) := (aLet (X11_in (a0.toInt64) (0 : Int64) (1 : Int64)) (fun w1 => (if w1 = 0 ∨ w1 = 1 then some (w1) else none)))
set_option maxHeartbeats 4000000 in
set_option maxRecDepth 100000 in
theorem J_X11_isPart (l : Launch) (g : aWg) (N : Nat) (a0 : Int32) (S : aSt) {r : Int32} (hf : X11_isPart N a0 = (some r)) : aJ l g yX11_isPart M_X11_isPart [.int a0] LAY S (some (.int r)) LAY S 0 0 := by
  refine aJ_of (by decide +kernel) rfl (Nat.le_of_ble_eq_true rfl) (fun h => nomatch h) ?_
  intro C hg hl hC hz hF
  subst hg; subst hl
  have hT := ok_X11_isPart
  unfold X11_isPart at hf
  show aX C M_X11_isPart 0 0 (0, [(0, .int a0)], [], LAY, S)
  refine aRun_ok hC hT 4 (cf' := (4, [(0, .int a0)], [.long (1 : Int64), .long (0 : Int64), .long (a0.toInt64)], LAY, S)) (by rfl) ?_
  obtain ⟨w1, ew2, hf⟩ := aLetE hf
  refine aCallS (As := [.long (a0.toInt64), .long (0 : Int64), .long (1 : Int64)]) (rest := []) hC hT rfl k_X11_isPart_70.1 _ k_X11_isPart_70.2 (by rfl) (Nat.le_of_ble_eq_true rfl) (by decide) (J_X11_in C.2.2.1 C.1 (a0.toInt64) (0 : Int64) (1 : Int64) S ew2) ?_
  obtain ⟨hb3, hf⟩ := aGdE hf
  have e9 := Option.some.inj hf; subst e9
  exact aRetB hC hT hF rfl hb3 rfl
def X11_oneWeights_42_b4 (N : Nat) (S : aSt) (rec4 : Int64 → Int32 → Option (Int64)) (v1 : Int64) (v3 : Int32) : Option (Int64) := (if (S.1 42 25) ≤ v3 then some (v1) else (if aIx v3 2048 = true then (if aIx ((S.2.2 55) v3.toNatClampNeg) 2048 = true then (rec4 (v1 + (((S.2.2 54) ((S.2.2 55) v3.toNatClampNeg).toNatClampNeg).toInt64)) (v3 + (1 : Int32))) else none) else none))
set_option maxHeartbeats 4000000 in
set_option maxRecDepth 100000 in
theorem X11_oneWeights_42_b4_ok {C : aC} {N : Nat} {S : aSt} {rec4 : Int64 → Int32 → Option (Int64)} (hC : aCx C M_X11_oneWeights) {r : Int64} (hF : aFin C (some (.long r)) LAY S 0 0) (hrec4 : ∀ (v1 : Int64) (v3 : Int32), rec4 v1 v3 = (some r) → aX C M_X11_oneWeights 0 0 (4, [(0, .ref 42), (1, .long v1), (3, .int v3)], [], LAY, S)) (v1 : Int64) (v3 : Int32) (hf : X11_oneWeights_42_b4 N S rec4 v1 v3 = (some r)) : aX C M_X11_oneWeights 0 0 (4, [(0, .ref 42), (1, .long v1), (3, .int v3)], [], LAY, S) := by
  have hT := ok_X11_oneWeights
  unfold X11_oneWeights_42_b4 at hf
  refine aRun_ok hC hT 3 (cf' := (9, [(0, .ref 42), (1, .long v1), (3, .int v3)], [.int (S.1 42 25), .int v3], LAY, S)) (by rfl) ?_
  refine aCmp_ge hC hT (tgt := 33) rfl (by decide) (fun hc1 => ?_) (fun hc1 => ?_)
  · have hf := aIfT hf hc1
    refine aRun_ok hC hT 1 (cf' := (34, [(0, .ref 42), (1, .long v1), (3, .int v3)], [.long v1], LAY, S)) (by rfl) ?_
    have e9 := Option.some.inj hf; subst e9
    exact aRetL hC hT hF rfl rfl
  · have hf := aIfF hf hc1
    refine aRun_ok hC hT 6 (cf' := (22, [(0, .ref 42), (1, .long v1), (3, .int v3)], [.int v3, .ref 55, .ref 54, .long v1], LAY, S)) (by rfl) ?_
    obtain ⟨hin2, hf⟩ := aGdE hf
    refine aIald hC hT rfl (by decide) (by rfl) hin2 ?_
    obtain ⟨hin3, hf⟩ := aGdE hf
    refine aIald hC hT rfl (by decide) (by rfl) hin3 ?_
    refine aRun_ok hC hT 5 (cf' := (4, [(3, .int (v3 + (1 : Int32))), (1, .long (v1 + (((S.2.2 54) ((S.2.2 55) v3.toNatClampNeg).toNatClampNeg).toInt64))), (0, .ref 42)], [], LAY, S)) (by rfl) ?_
    refine aLocs [2, 1, 0] (lv' := [(0, .ref 42), (1, .long (v1 + (((S.2.2 54) ((S.2.2 55) v3.toNatClampNeg).toNatClampNeg).toInt64))), (3, .int (v3 + (1 : Int32)))]) rfl ?_
    exact hrec4 (v1 + (((S.2.2 54) ((S.2.2 55) v3.toNatClampNeg).toNatClampNeg).toInt64)) (v3 + (1 : Int32)) hf
def X11_oneWeights_42_l4 (N : Nat) (S : aSt) : Nat → Int64 → Int32 → Option (Int64)
  | 0 => fun _ _ => none
  | n + 1 => X11_oneWeights_42_b4 N S (X11_oneWeights_42_l4 N S n)
theorem X11_oneWeights_42_l4_ok {C : aC} {N : Nat} {S : aSt} (hC : aCx C M_X11_oneWeights) {r : Int64} (hF : aFin C (some (.long r)) LAY S 0 0) : ∀ (n : Nat) (v1 : Int64) (v3 : Int32), X11_oneWeights_42_l4 N S n v1 v3 = (some r) → aX C M_X11_oneWeights 0 0 (4, [(0, .ref 42), (1, .long v1), (3, .int v3)], [], LAY, S)
  | 0, _, _,  h => nomatch (show (none : Option (Int64)) = some _ from h)
  | n + 1, v1, v3,  h => X11_oneWeights_42_b4_ok hC hF (fun v1 v3 h => X11_oneWeights_42_l4_ok hC hF n v1 v3 h) v1 v3 h
def X11_oneWeights_42 (N : Nat) (S : aSt) : Option (Int64) := (X11_oneWeights_42_l4 N S N (0 : Int64) (0 : Int32))
set_option maxHeartbeats 4000000 in
set_option maxRecDepth 100000 in
theorem J_X11_oneWeights_42 (l : Launch) (g : aWg) (N : Nat) (S : aSt) {r : Int64} (hf : X11_oneWeights_42 N S = (some r)) : aJ l g yX11_oneWeights M_X11_oneWeights [.ref 42] LAY S (some (.long r)) LAY S 0 0 := by
  refine aJ_of (by decide +kernel) rfl (Nat.le_of_ble_eq_true rfl) (fun h => nomatch h) ?_
  intro C hg hl hC hz hF
  subst hg; subst hl
  have hT := ok_X11_oneWeights
  unfold X11_oneWeights_42 at hf
  show aX C M_X11_oneWeights 0 0 (0, [(0, .ref 42)], [], LAY, S)
  refine aRun_ok hC hT 4 (cf' := (4, [(3, .int (0 : Int32)), (1, .long (0 : Int64)), (0, .ref 42)], [], LAY, S)) (by rfl) ?_
  refine aLocs [2, 1, 0] (lv' := [(0, .ref 42), (1, .long (0 : Int64)), (3, .int (0 : Int32))]) rfl ?_
  exact X11_oneWeights_42_l4_ok hC hF N (0 : Int64) (0 : Int32) hf
def X11_arePair_42_b54 (N : Nat) (S : aSt) (v1 : Int32) (v2 : Int32) (s0 : Int32) (s1 : Int32) : Option (Int32) := (if s1 = s0 then (if aIx v1 2048 = true then (if aIx v2 2048 = true then (if ((S.2.2 51) v1.toNatClampNeg) = ((S.2.2 51) v2.toNatClampNeg) then some ((0 : Int32)) else some ((1 : Int32))) else none) else none) else some ((1 : Int32)))
set_option maxHeartbeats 4000000 in
set_option maxRecDepth 100000 in
theorem X11_arePair_42_b54_ok {C : aC} {N : Nat} {S : aSt} (hC : aCx C M_X11_arePair) {r : Int32} (hF : aFin C (some (.int r)) LAY S 0 0) (v1 : Int32) (v2 : Int32) (s0 : Int32) (s1 : Int32) (hf : X11_arePair_42_b54 N S v1 v2 s0 s1 = (some r)) : aX C M_X11_arePair 0 0 (54, [(0, .ref 42), (1, .int v1), (2, .int v2)], [.int s0, .int s1], LAY, S) := by
  have hT := ok_X11_arePair
  unfold X11_arePair_42_b54 at hf
  refine aCmp_ne hC hT (tgt := 72) rfl (by decide) (fun hc9 => ?_) (fun hc9 => ?_)
  · have hf := aIfF hf hc9
    refine aRun_ok hC hT 2 (cf' := (77, [(0, .ref 42), (1, .int v1), (2, .int v2)], [.int (1 : Int32)], LAY, S)) (by rfl) ?_
    have e9 := Option.some.inj hf; subst e9
    exact aRetB hC hT hF rfl (Or.inr rfl) rfl
  · have hf := aIfT hf hc9
    refine aRun_ok hC hT 3 (cf' := (62, [(0, .ref 42), (1, .int v1), (2, .int v2)], [.int v1, .ref 51], LAY, S)) (by rfl) ?_
    obtain ⟨hin10, hf⟩ := aGdE hf
    refine aIald hC hT rfl (by decide) (by rfl) hin10 ?_
    refine aRun_ok hC hT 3 (cf' := (68, [(0, .ref 42), (1, .int v1), (2, .int v2)], [.int v2, .ref 51, .int ((S.2.2 51) v1.toNatClampNeg)], LAY, S)) (by rfl) ?_
    obtain ⟨hin11, hf⟩ := aGdE hf
    refine aIald hC hT rfl (by decide) (by rfl) hin11 ?_
    refine aCmp_eq hC hT (tgt := 76) rfl (by decide) (fun hc12 => ?_) (fun hc12 => ?_)
    · have hf := aIfT hf hc12
      refine aRun_ok hC hT 1 (cf' := (77, [(0, .ref 42), (1, .int v1), (2, .int v2)], [.int (0 : Int32)], LAY, S)) (by rfl) ?_
      have e9 := Option.some.inj hf; subst e9
      exact aRetB hC hT hF rfl (Or.inl rfl) rfl
    · have hf := aIfF hf hc12
      refine aRun_ok hC hT 2 (cf' := (77, [(0, .ref 42), (1, .int v1), (2, .int v2)], [.int (1 : Int32)], LAY, S)) (by rfl) ?_
      have e9 := Option.some.inj hf; subst e9
      exact aRetB hC hT hF rfl (Or.inr rfl) rfl
def X11_arePair_42_b16 (N : Nat) (S : aSt) (v1 : Int32) (v2 : Int32) (s0 : Int32) : Option (Int32) := (if aIx v1 2048 = true then (if ((S.2.2 50) v1.toNatClampNeg) = (5 : Int32) then some ((0 : Int32)) else (if aIx v2 2048 = true then (if ((S.2.2 50) v2.toNatClampNeg) = (5 : Int32) then some ((0 : Int32)) else (if aIx v2 2048 = true then (if ((S.2.2 50) v2.toNatClampNeg) = (6 : Int32) then (X11_arePair_42_b54 N S v1 v2 (1 : Int32) s0) else (X11_arePair_42_b54 N S v1 v2 (0 : Int32) s0)) else none)) else none)) else none)
set_option maxHeartbeats 4000000 in
set_option maxRecDepth 100000 in
theorem X11_arePair_42_b16_ok {C : aC} {N : Nat} {S : aSt} (hC : aCx C M_X11_arePair) {r : Int32} (hF : aFin C (some (.int r)) LAY S 0 0) (v1 : Int32) (v2 : Int32) (s0 : Int32) (hf : X11_arePair_42_b16 N S v1 v2 s0 = (some r)) : aX C M_X11_arePair 0 0 (16, [(0, .ref 42), (1, .int v1), (2, .int v2)], [.int s0], LAY, S) := by
  have hT := ok_X11_arePair
  unfold X11_arePair_42_b16 at hf
  refine aRun_ok hC hT 4 (cf' := (22, [(3, .int s0), (0, .ref 42), (1, .int v1), (2, .int v2)], [.int v1, .ref 50], LAY, S)) (by rfl) ?_
  obtain ⟨hin3, hf⟩ := aGdE hf
  refine aIald hC hT rfl (by decide) (by rfl) hin3 ?_
  refine aRun_ok hC hT 1 (cf' := (24, [(3, .int s0), (0, .ref 42), (1, .int v1), (2, .int v2)], [.int (5 : Int32), .int ((S.2.2 50) v1.toNatClampNeg)], LAY, S)) (by rfl) ?_
  refine aCmp_eq hC hT (tgt := 76) rfl (by decide) (fun hc4 => ?_) (fun hc4 => ?_)
  · have hf := aIfT hf hc4
    refine aRun_ok hC hT 1 (cf' := (77, [(3, .int s0), (0, .ref 42), (1, .int v1), (2, .int v2)], [.int (0 : Int32)], LAY, S)) (by rfl) ?_
    have e9 := Option.some.inj hf; subst e9
    exact aRetB hC hT hF rfl (Or.inl rfl) rfl
  · have hf := aIfF hf hc4
    refine aRun_ok hC hT 3 (cf' := (32, [(3, .int s0), (0, .ref 42), (1, .int v1), (2, .int v2)], [.int v2, .ref 50], LAY, S)) (by rfl) ?_
    obtain ⟨hin5, hf⟩ := aGdE hf
    refine aIald hC hT rfl (by decide) (by rfl) hin5 ?_
    refine aRun_ok hC hT 1 (cf' := (34, [(3, .int s0), (0, .ref 42), (1, .int v1), (2, .int v2)], [.int (5 : Int32), .int ((S.2.2 50) v2.toNatClampNeg)], LAY, S)) (by rfl) ?_
    refine aCmp_eq hC hT (tgt := 76) rfl (by decide) (fun hc6 => ?_) (fun hc6 => ?_)
    · have hf := aIfT hf hc6
      refine aRun_ok hC hT 1 (cf' := (77, [(3, .int s0), (0, .ref 42), (1, .int v1), (2, .int v2)], [.int (0 : Int32)], LAY, S)) (by rfl) ?_
      have e9 := Option.some.inj hf; subst e9
      exact aRetB hC hT hF rfl (Or.inl rfl) rfl
    · have hf := aIfF hf hc6
      refine aRun_ok hC hT 4 (cf' := (43, [(3, .int s0), (0, .ref 42), (1, .int v1), (2, .int v2)], [.int v2, .ref 50, .int s0], LAY, S)) (by rfl) ?_
      obtain ⟨hin7, hf⟩ := aGdE hf
      refine aIald hC hT rfl (by decide) (by rfl) hin7 ?_
      refine aRun_ok hC hT 1 (cf' := (46, [(3, .int s0), (0, .ref 42), (1, .int v1), (2, .int v2)], [.int (6 : Int32), .int ((S.2.2 50) v2.toNatClampNeg), .int s0], LAY, S)) (by rfl) ?_
      refine aCmp_ne hC hT (tgt := 53) rfl (by decide) (fun hc8 => ?_) (fun hc8 => ?_)
      · have hf := aIfF hf hc8
        refine aRun_ok hC hT 1 (cf' := (54, [(3, .int s0), (0, .ref 42), (1, .int v1), (2, .int v2)], [.int (0 : Int32), .int s0], LAY, S)) (by rfl) ?_
        refine aLocs [1, 2, 3] (lv' := [(0, .ref 42), (1, .int v1), (2, .int v2)]) rfl ?_
        exact X11_arePair_42_b54_ok hC hF v1 v2 (0 : Int32) s0 hf
      · have hf := aIfT hf hc8
        refine aRun_ok hC hT 2 (cf' := (54, [(3, .int s0), (0, .ref 42), (1, .int v1), (2, .int v2)], [.int (1 : Int32), .int s0], LAY, S)) (by rfl) ?_
        refine aLocs [1, 2, 3] (lv' := [(0, .ref 42), (1, .int v1), (2, .int v2)]) rfl ?_
        exact X11_arePair_42_b54_ok hC hF v1 v2 (1 : Int32) s0 hf
def X11_arePair_42 (N : Nat) (a1 : Int32) (a2 : Int32) (S : aSt) : Option (Int32) := (if aIx a1 2048 = true then (if ((S.2.2 50) a1.toNatClampNeg) = (6 : Int32) then (X11_arePair_42_b16 N S a1 a2 (1 : Int32)) else (X11_arePair_42_b16 N S a1 a2 (0 : Int32))) else none)
set_option maxHeartbeats 4000000 in
set_option maxRecDepth 100000 in
theorem J_X11_arePair_42 (l : Launch) (g : aWg) (N : Nat) (a1 : Int32) (a2 : Int32) (S : aSt) {r : Int32} (hf : X11_arePair_42 N a1 a2 S = (some r)) : aJ l g yX11_arePair M_X11_arePair [.ref 42, .int a1, .int a2] LAY S (some (.int r)) LAY S 0 0 := by
  refine aJ_of (by decide +kernel) rfl (Nat.le_of_ble_eq_true rfl) (fun h => nomatch h) ?_
  intro C hg hl hC hz hF
  subst hg; subst hl
  have hT := ok_X11_arePair
  unfold X11_arePair_42 at hf
  show aX C M_X11_arePair 0 0 (0, [(0, .ref 42), (1, .int a1), (2, .int a2)], [], LAY, S)
  refine aRun_ok hC hT 3 (cf' := (5, [(0, .ref 42), (1, .int a1), (2, .int a2)], [.int a1, .ref 50], LAY, S)) (by rfl) ?_
  obtain ⟨hin1, hf⟩ := aGdE hf
  refine aIald hC hT rfl (by decide) (by rfl) hin1 ?_
  refine aRun_ok hC hT 1 (cf' := (8, [(0, .ref 42), (1, .int a1), (2, .int a2)], [.int (6 : Int32), .int ((S.2.2 50) a1.toNatClampNeg)], LAY, S)) (by rfl) ?_
  refine aCmp_ne hC hT (tgt := 15) rfl (by decide) (fun hc2 => ?_) (fun hc2 => ?_)
  · have hf := aIfF hf hc2
    refine aRun_ok hC hT 1 (cf' := (16, [(0, .ref 42), (1, .int a1), (2, .int a2)], [.int (0 : Int32)], LAY, S)) (by rfl) ?_
    exact X11_arePair_42_b16_ok hC hF a1 a2 (0 : Int32) hf
  · have hf := aIfT hf hc2
    refine aRun_ok hC hT 2 (cf' := (16, [(0, .ref 42), (1, .int a1), (2, .int a2)], [.int (1 : Int32)], LAY, S)) (by rfl) ?_
    exact X11_arePair_42_b16_ok hC hF a1 a2 (1 : Int32) hf
def X11_layPairs_42_b147 (N : Nat) (rec25 : Int32 → Int64 → Int32 → aSt → Option (aSt)) (v1 : Int32) (v2 : Int64) (v4 : Int32) (S : aSt) : Option (aSt) := (rec25 v1 v2 (v4 + (1 : Int32)) S)
set_option maxHeartbeats 4000000 in
set_option maxRecDepth 100000 in
theorem X11_layPairs_42_b147_ok {C : aC} {N : Nat} {rec25 : Int32 → Int64 → Int32 → aSt → Option (aSt)} (hC : aCx C M_X11_layPairs) {r : aSt} (hF : aFin C none LAY r 0 0) (hrec25 : ∀ (v1 : Int32) (v2 : Int64) (v4 : Int32) (S : aSt), rec25 v1 v2 v4 S = (some r) → aX C M_X11_layPairs 0 0 (25, [(0, .ref 42), (1, .int v1), (2, .long v2), (4, .int v4)], [], LAY, S)) (v1 : Int32) (v2 : Int64) (v4 : Int32) (S : aSt) (hf : X11_layPairs_42_b147 N rec25 v1 v2 v4 S = (some r)) : aX C M_X11_layPairs 0 0 (147, [(0, .ref 42), (1, .int v1), (2, .long v2), (4, .int v4)], [], LAY, S) := by
  have hT := ok_X11_layPairs
  unfold X11_layPairs_42_b147 at hf
  refine aRun_ok hC hT 2 (cf' := (25, [(4, .int (v4 + (1 : Int32))), (0, .ref 42), (1, .int v1), (2, .long v2)], [], LAY, S)) (by rfl) ?_
  refine aLocs [1, 2, 3, 0] (lv' := [(0, .ref 42), (1, .int v1), (2, .long v2), (4, .int (v4 + (1 : Int32)))]) rfl ?_
  exact hrec25 v1 v2 (v4 + (1 : Int32)) S hf
def X11_layPairs_42_b141 (N : Nat) (rec25 : Int32 → Int64 → Int32 → aSt → Option (aSt)) (rec40 : Int32 → Int64 → Int32 → Int32 → aSt → Option (aSt)) (v1 : Int32) (v2 : Int64) (v4 : Int32) (v5 : Int32) (S : aSt) : Option (aSt) := (rec40 v1 v2 v4 (v5 + (1 : Int32)) S)
set_option maxHeartbeats 4000000 in
set_option maxRecDepth 100000 in
theorem X11_layPairs_42_b141_ok {C : aC} {N : Nat} {rec25 : Int32 → Int64 → Int32 → aSt → Option (aSt)} {rec40 : Int32 → Int64 → Int32 → Int32 → aSt → Option (aSt)} (hC : aCx C M_X11_layPairs) {r : aSt} (hF : aFin C none LAY r 0 0) (hrec25 : ∀ (v1 : Int32) (v2 : Int64) (v4 : Int32) (S : aSt), rec25 v1 v2 v4 S = (some r) → aX C M_X11_layPairs 0 0 (25, [(0, .ref 42), (1, .int v1), (2, .long v2), (4, .int v4)], [], LAY, S)) (hrec40 : ∀ (v1 : Int32) (v2 : Int64) (v4 : Int32) (v5 : Int32) (S : aSt), rec40 v1 v2 v4 v5 S = (some r) → aX C M_X11_layPairs 0 0 (40, [(0, .ref 42), (1, .int v1), (2, .long v2), (4, .int v4), (5, .int v5)], [], LAY, S)) (v1 : Int32) (v2 : Int64) (v4 : Int32) (v5 : Int32) (S : aSt) (hf : X11_layPairs_42_b141 N rec25 rec40 v1 v2 v4 v5 S = (some r)) : aX C M_X11_layPairs 0 0 (141, [(0, .ref 42), (1, .int v1), (2, .long v2), (4, .int v4), (5, .int v5)], [], LAY, S) := by
  have hT := ok_X11_layPairs
  unfold X11_layPairs_42_b141 at hf
  refine aRun_ok hC hT 2 (cf' := (40, [(5, .int (v5 + (1 : Int32))), (0, .ref 42), (1, .int v1), (2, .long v2), (4, .int v4)], [], LAY, S)) (by rfl) ?_
  refine aLocs [1, 2, 3, 4, 0] (lv' := [(0, .ref 42), (1, .int v1), (2, .long v2), (4, .int v4), (5, .int (v5 + (1 : Int32)))]) rfl ?_
  exact hrec40 v1 v2 v4 (v5 + (1 : Int32)) S hf
def X11_layPairs_42_b40 (N : Nat) (rec25 : Int32 → Int64 → Int32 → aSt → Option (aSt)) (rec40 : Int32 → Int64 → Int32 → Int32 → aSt → Option (aSt)) (v1 : Int32) (v2 : Int64) (v4 : Int32) (v5 : Int32) (S : aSt) : Option (aSt) := (if (S.1 42 23) ≤ v5 then (X11_layPairs_42_b147 N rec25 v1 v2 v4 S) else (if aIx v4 2048 = true then (if aIx v5 2048 = true then (if (((S.2.2 53) v4.toNatClampNeg) + ((S.2.2 53) v5.toNatClampNeg)) = v1 then (Option.bind (X11_arePair_42 N v4 v5 S) (fun w6 => (if w6 = (0 : Int32) then (X11_layPairs_42_b141 N rec25 rec40 v1 v2 v4 v5 S) else (if aIx v4 2048 = true then (if aIx v5 2048 = true then (if (lg_cmp ((((S.2.2 54) v4.toNatClampNeg).toInt64) * (((S.2.2 54) v5.toNatClampNeg).toInt64)) v2) ≤ (0 : Int32) then (X11_layPairs_42_b141 N rec25 rec40 v1 v2 v4 v5 (aL (aL S 42 26 ((S.2.1 42 26) + (1 : Int64))) 42 27 ((S.2.1 42 27) + ((((S.2.2 54) v4.toNatClampNeg).toInt64) * (((S.2.2 54) v5.toNatClampNeg).toInt64))))) else (X11_layPairs_42_b141 N rec25 rec40 v1 ((((S.2.2 54) v4.toNatClampNeg).toInt64) * (((S.2.2 54) v5.toNatClampNeg).toInt64)) v4 v5 (aI (aI (aL (aL S 42 26 ((S.2.1 42 26) + (1 : Int64))) 42 27 ((S.2.1 42 27) + ((((S.2.2 54) v4.toNatClampNeg).toInt64) * (((S.2.2 54) v5.toNatClampNeg).toInt64)))) 42 28 v4) 42 29 v5))) else none) else none)))) else (X11_layPairs_42_b141 N rec25 rec40 v1 v2 v4 v5 S)) else none) else none))
set_option maxHeartbeats 4000000 in
set_option maxRecDepth 100000 in
theorem X11_layPairs_42_b40_ok {C : aC} {N : Nat} {rec25 : Int32 → Int64 → Int32 → aSt → Option (aSt)} {rec40 : Int32 → Int64 → Int32 → Int32 → aSt → Option (aSt)} (hC : aCx C M_X11_layPairs) {r : aSt} (hF : aFin C none LAY r 0 0) (hrec25 : ∀ (v1 : Int32) (v2 : Int64) (v4 : Int32) (S : aSt), rec25 v1 v2 v4 S = (some r) → aX C M_X11_layPairs 0 0 (25, [(0, .ref 42), (1, .int v1), (2, .long v2), (4, .int v4)], [], LAY, S)) (hrec40 : ∀ (v1 : Int32) (v2 : Int64) (v4 : Int32) (v5 : Int32) (S : aSt), rec40 v1 v2 v4 v5 S = (some r) → aX C M_X11_layPairs 0 0 (40, [(0, .ref 42), (1, .int v1), (2, .long v2), (4, .int v4), (5, .int v5)], [], LAY, S)) (v1 : Int32) (v2 : Int64) (v4 : Int32) (v5 : Int32) (S : aSt) (hf : X11_layPairs_42_b40 N rec25 rec40 v1 v2 v4 v5 S = (some r)) : aX C M_X11_layPairs 0 0 (40, [(0, .ref 42), (1, .int v1), (2, .long v2), (4, .int v4), (5, .int v5)], [], LAY, S) := by
  have hT := ok_X11_layPairs
  unfold X11_layPairs_42_b40 at hf
  refine aRun_ok hC hT 3 (cf' := (46, [(0, .ref 42), (1, .int v1), (2, .long v2), (4, .int v4), (5, .int v5)], [.int (S.1 42 23), .int v5], LAY, S)) (by rfl) ?_
  refine aCmp_ge hC hT (tgt := 147) rfl (by decide) (fun hc2 => ?_) (fun hc2 => ?_)
  · have hf := aIfT hf hc2
    refine aLocs [0, 1, 2, 3] (lv' := [(0, .ref 42), (1, .int v1), (2, .long v2), (4, .int v4)]) rfl ?_
    exact X11_layPairs_42_b147_ok hC hF hrec25 v1 v2 v4 S hf
  · have hf := aIfF hf hc2
    refine aRun_ok hC hT 3 (cf' := (55, [(0, .ref 42), (1, .int v1), (2, .long v2), (4, .int v4), (5, .int v5)], [.int v4, .ref 53], LAY, S)) (by rfl) ?_
    obtain ⟨hin3, hf⟩ := aGdE hf
    refine aIald hC hT rfl (by decide) (by rfl) hin3 ?_
    refine aRun_ok hC hT 3 (cf' := (62, [(0, .ref 42), (1, .int v1), (2, .long v2), (4, .int v4), (5, .int v5)], [.int v5, .ref 53, .int ((S.2.2 53) v4.toNatClampNeg)], LAY, S)) (by rfl) ?_
    obtain ⟨hin4, hf⟩ := aGdE hf
    refine aIald hC hT rfl (by decide) (by rfl) hin4 ?_
    refine aRun_ok hC hT 2 (cf' := (65, [(0, .ref 42), (1, .int v1), (2, .long v2), (4, .int v4), (5, .int v5)], [.int v1, .int (((S.2.2 53) v4.toNatClampNeg) + ((S.2.2 53) v5.toNatClampNeg))], LAY, S)) (by rfl) ?_
    refine aCmp_ne hC hT (tgt := 141) rfl (by decide) (fun hc5 => ?_) (fun hc5 => ?_)
    · have hf := aIfF hf hc5
      exact X11_layPairs_42_b141_ok hC hF hrec25 hrec40 v1 v2 v4 v5 S hf
    · have hf := aIfT hf hc5
      refine aRun_ok hC hT 3 (cf' := (73, [(0, .ref 42), (1, .int v1), (2, .long v2), (4, .int v4), (5, .int v5)], [.int v5, .int v4, .ref 42], LAY, S)) (by rfl) ?_
      obtain ⟨w6, ew7, hf⟩ := aBnE hf
      refine aCallV (b := 42) (As := [.int v4, .int v5]) (rest := []) hC hT rfl k_X11_layPairs_246.1 _ _ k_X11_layPairs_246.2 (by decide) (by rfl) (by rfl) (by rfl) (Nat.le_of_ble_eq_true rfl) (by decide) (J_X11_arePair_42 C.2.2.1 C.1 N v4 v5 S ew7) ?_
      refine aIf_eq hC hT (tgt := 141) rfl (by decide) (fun hc8 => ?_) (fun hc8 => ?_)
      · have hf := aIfT hf hc8
        exact X11_layPairs_42_b141_ok hC hF hrec25 hrec40 v1 v2 v4 v5 S hf
      · have hf := aIfF hf hc8
        refine aRun_ok hC hT 3 (cf' := (85, [(0, .ref 42), (1, .int v1), (2, .long v2), (4, .int v4), (5, .int v5)], [.int v4, .ref 54], LAY, S)) (by rfl) ?_
        obtain ⟨hin9, hf⟩ := aGdE hf
        refine aIald hC hT rfl (by decide) (by rfl) hin9 ?_
        refine aRun_ok hC hT 4 (cf' := (93, [(0, .ref 42), (1, .int v1), (2, .long v2), (4, .int v4), (5, .int v5)], [.int v5, .ref 54, .long (((S.2.2 54) v4.toNatClampNeg).toInt64)], LAY, S)) (by rfl) ?_
        obtain ⟨hin10, hf⟩ := aGdE hf
        refine aIald hC hT rfl (by decide) (by rfl) hin10 ?_
        refine aRun_ok hC hT 18 (cf' := (123, [(6, .long ((((S.2.2 54) v4.toNatClampNeg).toInt64) * (((S.2.2 54) v5.toNatClampNeg).toInt64))), (0, .ref 42), (1, .int v1), (2, .long v2), (4, .int v4), (5, .int v5)], [.int (lg_cmp ((((S.2.2 54) v4.toNatClampNeg).toInt64) * (((S.2.2 54) v5.toNatClampNeg).toInt64)) v2)], LAY, (aL (aL S 42 26 ((S.2.1 42 26) + (1 : Int64))) 42 27 ((S.2.1 42 27) + ((((S.2.2 54) v4.toNatClampNeg).toInt64) * (((S.2.2 54) v5.toNatClampNeg).toInt64)))))) (by rfl) ?_
        refine aIf_le hC hT (tgt := 141) rfl (by decide) (fun hc11 => ?_) (fun hc11 => ?_)
        · have hf := aIfT hf hc11
          refine aLocs [1, 2, 3, 4, 5] (lv' := [(0, .ref 42), (1, .int v1), (2, .long v2), (4, .int v4), (5, .int v5)]) rfl ?_
          exact X11_layPairs_42_b141_ok hC hF hrec25 hrec40 v1 v2 v4 v5 (aL (aL S 42 26 ((S.2.1 42 26) + (1 : Int64))) 42 27 ((S.2.1 42 27) + ((((S.2.2 54) v4.toNatClampNeg).toInt64) * (((S.2.2 54) v5.toNatClampNeg).toInt64)))) hf
        · have hf := aIfF hf hc11
          refine aRun_ok hC hT 8 (cf' := (141, [(2, .long ((((S.2.2 54) v4.toNatClampNeg).toInt64) * (((S.2.2 54) v5.toNatClampNeg).toInt64))), (6, .long ((((S.2.2 54) v4.toNatClampNeg).toInt64) * (((S.2.2 54) v5.toNatClampNeg).toInt64))), (0, .ref 42), (1, .int v1), (4, .int v4), (5, .int v5)], [], LAY, (aI (aI (aL (aL S 42 26 ((S.2.1 42 26) + (1 : Int64))) 42 27 ((S.2.1 42 27) + ((((S.2.2 54) v4.toNatClampNeg).toInt64) * (((S.2.2 54) v5.toNatClampNeg).toInt64)))) 42 28 v4) 42 29 v5))) (by rfl) ?_
          refine aLocs [2, 3, 0, 4, 5] (lv' := [(0, .ref 42), (1, .int v1), (2, .long ((((S.2.2 54) v4.toNatClampNeg).toInt64) * (((S.2.2 54) v5.toNatClampNeg).toInt64))), (4, .int v4), (5, .int v5)]) rfl ?_
          exact X11_layPairs_42_b141_ok hC hF hrec25 hrec40 v1 ((((S.2.2 54) v4.toNatClampNeg).toInt64) * (((S.2.2 54) v5.toNatClampNeg).toInt64)) v4 v5 (aI (aI (aL (aL S 42 26 ((S.2.1 42 26) + (1 : Int64))) 42 27 ((S.2.1 42 27) + ((((S.2.2 54) v4.toNatClampNeg).toInt64) * (((S.2.2 54) v5.toNatClampNeg).toInt64)))) 42 28 v4) 42 29 v5) hf
def X11_layPairs_42_l40 (N : Nat) (rec25 : Int32 → Int64 → Int32 → aSt → Option (aSt)) : Nat → Int32 → Int64 → Int32 → Int32 → aSt → Option (aSt)
  | 0 => fun _ _ _ _ _ => none
  | n + 1 => X11_layPairs_42_b40 N rec25 (X11_layPairs_42_l40 N rec25 n)
theorem X11_layPairs_42_l40_ok {C : aC} {N : Nat} {rec25 : Int32 → Int64 → Int32 → aSt → Option (aSt)} (hC : aCx C M_X11_layPairs) {r : aSt} (hF : aFin C none LAY r 0 0) (hrec25 : ∀ (v1 : Int32) (v2 : Int64) (v4 : Int32) (S : aSt), rec25 v1 v2 v4 S = (some r) → aX C M_X11_layPairs 0 0 (25, [(0, .ref 42), (1, .int v1), (2, .long v2), (4, .int v4)], [], LAY, S)) : ∀ (n : Nat) (v1 : Int32) (v2 : Int64) (v4 : Int32) (v5 : Int32) (S : aSt), X11_layPairs_42_l40 N rec25 n v1 v2 v4 v5 S = (some r) → aX C M_X11_layPairs 0 0 (40, [(0, .ref 42), (1, .int v1), (2, .long v2), (4, .int v4), (5, .int v5)], [], LAY, S)
  | 0, _, _, _, _, _,  h => nomatch (show (none : Option (aSt)) = some _ from h)
  | n + 1, v1, v2, v4, v5, S,  h => X11_layPairs_42_b40_ok hC hF hrec25 (fun v1 v2 v4 v5 S h => X11_layPairs_42_l40_ok hC hF hrec25 n v1 v2 v4 v5 S h) v1 v2 v4 v5 S h
def X11_layPairs_42_b25 (N : Nat) (rec25 : Int32 → Int64 → Int32 → aSt → Option (aSt)) (v1 : Int32) (v2 : Int64) (v4 : Int32) (S : aSt) : Option (aSt) := (if (S.1 42 23) ≤ v4 then some (S) else (X11_layPairs_42_l40 N rec25 N v1 v2 v4 (v4 + (1 : Int32)) S))
set_option maxHeartbeats 4000000 in
set_option maxRecDepth 100000 in
theorem X11_layPairs_42_b25_ok {C : aC} {N : Nat} {rec25 : Int32 → Int64 → Int32 → aSt → Option (aSt)} (hC : aCx C M_X11_layPairs) {r : aSt} (hF : aFin C none LAY r 0 0) (hrec25 : ∀ (v1 : Int32) (v2 : Int64) (v4 : Int32) (S : aSt), rec25 v1 v2 v4 S = (some r) → aX C M_X11_layPairs 0 0 (25, [(0, .ref 42), (1, .int v1), (2, .long v2), (4, .int v4)], [], LAY, S)) (v1 : Int32) (v2 : Int64) (v4 : Int32) (S : aSt) (hf : X11_layPairs_42_b25 N rec25 v1 v2 v4 S = (some r)) : aX C M_X11_layPairs 0 0 (25, [(0, .ref 42), (1, .int v1), (2, .long v2), (4, .int v4)], [], LAY, S) := by
  have hT := ok_X11_layPairs
  unfold X11_layPairs_42_b25 at hf
  refine aRun_ok hC hT 3 (cf' := (31, [(0, .ref 42), (1, .int v1), (2, .long v2), (4, .int v4)], [.int (S.1 42 23), .int v4], LAY, S)) (by rfl) ?_
  refine aCmp_ge hC hT (tgt := 153) rfl (by decide) (fun hc1 => ?_) (fun hc1 => ?_)
  · have hf := aIfT hf hc1
    have e9 := Option.some.inj hf; subst e9
    exact aRetV hC hT hF rfl rfl
  · have hf := aIfF hf hc1
    refine aRun_ok hC hT 4 (cf' := (40, [(5, .int (v4 + (1 : Int32))), (0, .ref 42), (1, .int v1), (2, .long v2), (4, .int v4)], [], LAY, S)) (by rfl) ?_
    refine aLocs [1, 2, 3, 4, 0] (lv' := [(0, .ref 42), (1, .int v1), (2, .long v2), (4, .int v4), (5, .int (v4 + (1 : Int32)))]) rfl ?_
    exact X11_layPairs_42_l40_ok hC hF hrec25 N v1 v2 v4 (v4 + (1 : Int32)) S hf
def X11_layPairs_42_l25 (N : Nat) : Nat → Int32 → Int64 → Int32 → aSt → Option (aSt)
  | 0 => fun _ _ _ _ => none
  | n + 1 => X11_layPairs_42_b25 N (X11_layPairs_42_l25 N n)
theorem X11_layPairs_42_l25_ok {C : aC} {N : Nat} (hC : aCx C M_X11_layPairs) {r : aSt} (hF : aFin C none LAY r 0 0) : ∀ (n : Nat) (v1 : Int32) (v2 : Int64) (v4 : Int32) (S : aSt), X11_layPairs_42_l25 N n v1 v2 v4 S = (some r) → aX C M_X11_layPairs 0 0 (25, [(0, .ref 42), (1, .int v1), (2, .long v2), (4, .int v4)], [], LAY, S)
  | 0, _, _, _, _,  h => nomatch (show (none : Option (aSt)) = some _ from h)
  | n + 1, v1, v2, v4, S,  h => X11_layPairs_42_b25_ok hC hF (fun v1 v2 v4 S h => X11_layPairs_42_l25_ok hC hF n v1 v2 v4 S h) v1 v2 v4 S h
def X11_layPairs_42 (N : Nat) (a1 : Int32) (S : aSt) : Option (aSt) := (X11_layPairs_42_l25 N N a1 (0 : Int64) (0 : Int32) (aI (aI (aL (aL S 42 26 (0 : Int64)) 42 27 (0 : Int64)) 42 28 ((-1) : Int32)) 42 29 ((-1) : Int32)))
set_option maxHeartbeats 4000000 in
set_option maxRecDepth 100000 in
theorem J_X11_layPairs_42 (l : Launch) (g : aWg) (N : Nat) (a1 : Int32) (S : aSt) {r : aSt} (hf : X11_layPairs_42 N a1 S = (some r)) : aJ l g yX11_layPairs M_X11_layPairs [.ref 42, .int a1] LAY S none LAY r 0 0 := by
  refine aJ_of (by decide +kernel) rfl (Nat.le_of_ble_eq_true rfl) (fun h => nomatch h) ?_
  intro C hg hl hC hz hF
  subst hg; subst hl
  have hT := ok_X11_layPairs
  unfold X11_layPairs_42 at hf
  show aX C M_X11_layPairs 0 0 (0, [(0, .ref 42), (1, .int a1)], [], LAY, S)
  refine aRun_ok hC hT 16 (cf' := (25, [(4, .int (0 : Int32)), (2, .long (0 : Int64)), (0, .ref 42), (1, .int a1)], [], LAY, (aI (aI (aL (aL S 42 26 (0 : Int64)) 42 27 (0 : Int64)) 42 28 ((-1) : Int32)) 42 29 ((-1) : Int32)))) (by rfl) ?_
  refine aLocs [2, 3, 1, 0] (lv' := [(0, .ref 42), (1, .int a1), (2, .long (0 : Int64)), (4, .int (0 : Int32))]) rfl ?_
  exact X11_layPairs_42_l25_ok hC hF N a1 (0 : Int64) (0 : Int32) (aI (aI (aL (aL S 42 26 (0 : Int64)) 42 27 (0 : Int64)) 42 28 ((-1) : Int32)) 42 29 ((-1) : Int32)) hf
def X11_divisor_b6 (N : Nat) (rec6 : Int64 → Int64 → Option (Int64)) (v4 : Int64) (v6 : Int64) : Option (Int64) := (if (lg_cmp v6 (0 : Int64)) = (0 : Int32) then some (v4) else (if ¬ v6 = (0 : Int64) then (rec6 v6 (v4 - v4 / v6 * v6)) else none))
set_option maxHeartbeats 4000000 in
set_option maxRecDepth 100000 in
theorem X11_divisor_b6_ok {C : aC} {N : Nat} {S : aSt} {rec6 : Int64 → Int64 → Option (Int64)} (hC : aCx C M_X11_divisor) {r : Int64} (hF : aFin C (some (.long r)) LAY S 0 0) (hrec6 : ∀ (v4 : Int64) (v6 : Int64), rec6 v4 v6 = (some r) → aX C M_X11_divisor 0 0 (6, [(4, .long v4), (6, .long v6)], [], LAY, S)) (v4 : Int64) (v6 : Int64) (hf : X11_divisor_b6 N rec6 v4 v6 = (some r)) : aX C M_X11_divisor 0 0 (6, [(4, .long v4), (6, .long v6)], [], LAY, S) := by
  have hT := ok_X11_divisor
  unfold X11_divisor_b6 at hf
  refine aRun_ok hC hT 3 (cf' := (10, [(4, .long v4), (6, .long v6)], [.int (lg_cmp v6 (0 : Int64))], LAY, S)) (by rfl) ?_
  refine aIf_eq hC hT (tgt := 31) rfl (by decide) (fun hc1 => ?_) (fun hc1 => ?_)
  · have hf := aIfT hf hc1
    refine aRun_ok hC hT 1 (cf' := (33, [(4, .long v4), (6, .long v6)], [.long v4], LAY, S)) (by rfl) ?_
    have e9 := Option.some.inj hf; subst e9
    exact aRetL hC hT hF rfl rfl
  · have hf := aIfF hf hc1
    refine aRun_ok hC hT 2 (cf' := (17, [(4, .long v4), (6, .long v6)], [.long v6, .long v4], LAY, S)) (by rfl) ?_
    obtain ⟨hy2, hf⟩ := aGdE hf
    refine aLrem hC hT rfl hy2 ?_
    refine aRun_ok hC hT 6 (cf' := (6, [(6, .long (v4 - v4 / v6 * v6)), (4, .long v6), (8, .long (v4 - v4 / v6 * v6))], [], LAY, S)) (by rfl) ?_
    refine aLocs [1, 0] (lv' := [(4, .long v6), (6, .long (v4 - v4 / v6 * v6))]) rfl ?_
    exact hrec6 v6 (v4 - v4 / v6 * v6) hf
def X11_divisor_l6 (N : Nat) : Nat → Int64 → Int64 → Option (Int64)
  | 0 => fun _ _ => none
  | n + 1 => X11_divisor_b6 N (X11_divisor_l6 N n)
theorem X11_divisor_l6_ok {C : aC} {N : Nat} {S : aSt} (hC : aCx C M_X11_divisor) {r : Int64} (hF : aFin C (some (.long r)) LAY S 0 0) : ∀ (n : Nat) (v4 : Int64) (v6 : Int64), X11_divisor_l6 N n v4 v6 = (some r) → aX C M_X11_divisor 0 0 (6, [(4, .long v4), (6, .long v6)], [], LAY, S)
  | 0, _, _,  h => nomatch (show (none : Option (Int64)) = some _ from h)
  | n + 1, v4, v6,  h => X11_divisor_b6_ok hC hF (fun v4 v6 h => X11_divisor_l6_ok hC hF n v4 v6 h) v4 v6 h
def X11_divisor (N : Nat) (a0 : Int64) (a2 : Int64) : Option (Int64) := (X11_divisor_l6 N N a0 a2)
set_option maxHeartbeats 4000000 in
set_option maxRecDepth 100000 in
theorem J_X11_divisor (l : Launch) (g : aWg) (N : Nat) (a0 : Int64) (a2 : Int64) (S : aSt) {r : Int64} (hf : X11_divisor N a0 a2 = (some r)) : aJ l g yX11_divisor M_X11_divisor [.long a0, .long a2] LAY S (some (.long r)) LAY S 0 0 := by
  refine aJ_of (by decide +kernel) rfl (Nat.le_of_ble_eq_true rfl) (fun h => nomatch h) ?_
  intro C hg hl hC hz hF
  subst hg; subst hl
  have hT := ok_X11_divisor
  unfold X11_divisor at hf
  show aX C M_X11_divisor 0 0 (0, [(0, .long a0), (2, .long a2)], [], LAY, S)
  refine aRun_ok hC hT 4 (cf' := (6, [(6, .long a2), (4, .long a0), (0, .long a0), (2, .long a2)], [], LAY, S)) (by rfl) ?_
  refine aLocs [1, 0] (lv' := [(4, .long a0), (6, .long a2)]) rfl ?_
  exact X11_divisor_l6_ok hC hF N a0 a2 hf
def X11_lowest (N : Nat) (a0 : Int64) (a2 : Int64) (a4 : Int32) : Option (Int64) := (Option.bind (X11_divisor N a0 a2) (fun w1 => (if a4 = (0 : Int32) then (if ¬ w1 = (0 : Int64) then some ((a0 / w1)) else none) else (if ¬ w1 = (0 : Int64) then some ((a2 / w1)) else none))))
set_option maxHeartbeats 4000000 in
set_option maxRecDepth 100000 in
theorem J_X11_lowest (l : Launch) (g : aWg) (N : Nat) (a0 : Int64) (a2 : Int64) (a4 : Int32) (S : aSt) {r : Int64} (hf : X11_lowest N a0 a2 a4 = (some r)) : aJ l g yX11_lowest M_X11_lowest [.long a0, .long a2, .int a4] LAY S (some (.long r)) LAY S 0 0 := by
  refine aJ_of (by decide +kernel) rfl (Nat.le_of_ble_eq_true rfl) (fun h => nomatch h) ?_
  intro C hg hl hC hz hF
  subst hg; subst hl
  have hT := ok_X11_lowest
  unfold X11_lowest at hf
  show aX C M_X11_lowest 0 0 (0, [(0, .long a0), (2, .long a2), (4, .int a4)], [], LAY, S)
  refine aRun_ok hC hT 2 (cf' := (2, [(0, .long a0), (2, .long a2), (4, .int a4)], [.long a2, .long a0], LAY, S)) (by rfl) ?_
  obtain ⟨w1, ew2, hf⟩ := aBnE hf
  refine aCallS (As := [.long a0, .long a2]) (rest := []) hC hT rfl k_X11_lowest_257.1 _ k_X11_lowest_257.2 (by rfl) (Nat.le_of_ble_eq_true rfl) (by decide) (J_X11_divisor C.2.2.1 C.1 N a0 a2 S ew2) ?_
  refine aRun_ok hC hT 2 (cf' := (9, [(5, .long w1), (0, .long a0), (2, .long a2), (4, .int a4)], [.int a4], LAY, S)) (by rfl) ?_
  refine aIf_ne hC hT (tgt := 19) rfl (by decide) (fun hc3 => ?_) (fun hc3 => ?_)
  · have hf := aIfF hf hc3
    refine aRun_ok hC hT 2 (cf' := (22, [(5, .long w1), (0, .long a0), (2, .long a2), (4, .int a4)], [.long w1, .long a2], LAY, S)) (by rfl) ?_
    obtain ⟨hy4, hf⟩ := aGdE hf
    refine aLdiv hC hT rfl hy4 ?_
    have e9 := Option.some.inj hf; subst e9
    exact aRetL hC hT hF rfl rfl
  · have hf := aIfT hf hc3
    refine aRun_ok hC hT 2 (cf' := (15, [(5, .long w1), (0, .long a0), (2, .long a2), (4, .int a4)], [.long w1, .long a0], LAY, S)) (by rfl) ?_
    obtain ⟨hy5, hf⟩ := aGdE hf
    refine aLdiv hC hT rfl hy5 ?_
    refine aRun_ok hC hT 1 (cf' := (23, [(5, .long w1), (0, .long a0), (2, .long a2), (4, .int a4)], [.long (a0 / w1)], LAY, S)) (by rfl) ?_
    have e9 := Option.some.inj hf; subst e9
    exact aRetL hC hT hF rfl rfl
def X11_chance_42 (N : Nat) (a1 : Int32) (a2 : Int32) (S : aSt) : Option (Int64 × aSt) := (Option.bind (X11_layOnes_42 N (0 : Int32) S) (fun w1 => (aLet (X11_in (a1.toInt64) (0 : Int64) (((w1.1 42 25) - (1 : Int32)).toInt64)) (fun w3 => (if w3 = (0 : Int32) then some ((((-2) : Int64), w1)) else (Option.bind (X11_isPart N a2) (fun w6 => (if w6 = (0 : Int32) then some ((((-3) : Int64), w1)) else (if aIx a1 2048 = true then (if aIx ((w1.2.2 55) a1.toNatClampNeg) 2048 = true then (Option.bind (X11_oneWeights_42 N w1) (fun w11 => (Option.bind (X11_outOf_42 N ((-1) : Int32) w1) (fun w13 => (Option.bind (X11_layPairs_42 N (-w13) w1) (fun w15 => (Option.bind (X11_lowest N ((100 : Int64) * (((w1.2.2 54) ((w1.2.2 55) a1.toNatClampNeg).toNatClampNeg).toInt64)) (((100 : Int64) * w11) + (((w15.1 42 12).toInt64) * (w15.2.1 42 27))) a2) (fun w17 => some ((w17, w15)))))))))) else none) else none)))))))))
set_option maxHeartbeats 4000000 in
set_option maxRecDepth 100000 in
theorem J_X11_chance_42 (l : Launch) (g : aWg) (N : Nat) (a1 : Int32) (a2 : Int32) (S : aSt) {r : Int64 × aSt} (hf : X11_chance_42 N a1 a2 S = (some r)) : aJ l g yX11_chance M_X11_chance [.ref 42, .int a1, .int a2] LAY S (some (.long r.1)) LAY r.2 0 0 := by
  refine aJ_of (by decide +kernel) rfl (Nat.le_of_ble_eq_true rfl) (fun h => nomatch h) ?_
  intro C hg hl hC hz hF
  subst hg; subst hl
  have hT := ok_X11_chance
  unfold X11_chance_42 at hf
  show aX C M_X11_chance 0 0 (0, [(0, .ref 42), (1, .int a1), (2, .int a2)], [], LAY, S)
  refine aRun_ok hC hT 2 (cf' := (2, [(0, .ref 42), (1, .int a1), (2, .int a2)], [.int (0 : Int32), .ref 42], LAY, S)) (by rfl) ?_
  obtain ⟨w1, ew2, hf⟩ := aBnE hf
  refine aCallV (b := 42) (As := [.int (0 : Int32)]) (rest := []) hC hT rfl k_X11_chance_227.1 _ _ k_X11_chance_227.2 (by decide) (by rfl) (by rfl) (by rfl) (Nat.le_of_ble_eq_true rfl) (by decide) (J_X11_layOnes_42 C.2.2.1 C.1 N (0 : Int32) S ew2) ?_
  refine aRun_ok hC hT 8 (cf' := (15, [(0, .ref 42), (1, .int a1), (2, .int a2)], [.long (((w1.1 42 25) - (1 : Int32)).toInt64), .long (0 : Int64), .long (a1.toInt64)], LAY, w1)) (by rfl) ?_
  obtain ⟨w3, ew4, hf⟩ := aLetE hf
  refine aCallS (As := [.long (a1.toInt64), .long (0 : Int64), .long (((w1.1 42 25) - (1 : Int32)).toInt64)]) (rest := []) hC hT rfl k_X11_chance_70.1 _ k_X11_chance_70.2 (by rfl) (Nat.le_of_ble_eq_true rfl) (by decide) (J_X11_in C.2.2.1 C.1 (a1.toInt64) (0 : Int64) (((w1.1 42 25) - (1 : Int32)).toInt64) w1 ew4) ?_
  refine aIf_ne hC hT (tgt := 25) rfl (by decide) (fun hc5 => ?_) (fun hc5 => ?_)
  · have hf := aIfF hf hc5
    refine aRun_ok hC hT 1 (cf' := (26, [(0, .ref 42), (1, .int a1), (2, .int a2)], [.int a2], LAY, w1)) (by rfl) ?_
    obtain ⟨w6, ew7, hf⟩ := aBnE hf
    refine aCallS (As := [.int a2]) (rest := []) hC hT rfl k_X11_chance_263.1 _ k_X11_chance_263.2 (by rfl) (Nat.le_of_ble_eq_true rfl) (by decide) (J_X11_isPart C.2.2.1 C.1 N a2 w1 ew7) ?_
    refine aIf_ne hC hT (tgt := 36) rfl (by decide) (fun hc8 => ?_) (fun hc8 => ?_)
    · have hf := aIfF hf hc8
      refine aRun_ok hC hT 6 (cf' := (48, [(0, .ref 42), (1, .int a1), (2, .int a2)], [.int a1, .ref 55, .ref 54, .long (100 : Int64)], LAY, w1)) (by rfl) ?_
      obtain ⟨hin9, hf⟩ := aGdE hf
      refine aIald hC hT rfl (by decide) (by rfl) hin9 ?_
      obtain ⟨hin10, hf⟩ := aGdE hf
      refine aIald hC hT rfl (by decide) (by rfl) hin10 ?_
      refine aRun_ok hC hT 5 (cf' := (57, [(3, .long ((100 : Int64) * (((w1.2.2 54) ((w1.2.2 55) a1.toNatClampNeg).toNatClampNeg).toInt64))), (0, .ref 42), (1, .int a1), (2, .int a2)], [.ref 42, .long (100 : Int64)], LAY, w1)) (by rfl) ?_
      obtain ⟨w11, ew12, hf⟩ := aBnE hf
      refine aCallV (b := 42) (As := []) (rest := [.long (100 : Int64)]) hC hT rfl k_X11_chance_268.1 _ _ k_X11_chance_268.2 (by decide) (by rfl) (by rfl) (by rfl) (Nat.le_of_ble_eq_true rfl) (by decide) (J_X11_oneWeights_42 C.2.2.1 C.1 N  w1 ew12) ?_
      refine aRun_ok hC hT 5 (cf' := (66, [(5, .long ((100 : Int64) * w11)), (3, .long ((100 : Int64) * (((w1.2.2 54) ((w1.2.2 55) a1.toNatClampNeg).toNatClampNeg).toInt64))), (0, .ref 42), (1, .int a1), (2, .int a2)], [.int ((-1) : Int32), .ref 42, .ref 42], LAY, w1)) (by rfl) ?_
      obtain ⟨w13, ew14, hf⟩ := aBnE hf
      refine aCallV (b := 42) (As := [.int ((-1) : Int32)]) (rest := [.ref 42]) hC hT rfl k_X11_chance_155.1 _ _ k_X11_chance_155.2 (by decide) (by rfl) (by rfl) (by rfl) (Nat.le_of_ble_eq_true rfl) (by decide) (J_X11_outOf_42 C.2.2.1 C.1 N ((-1) : Int32) w1 ew14) ?_
      refine aRun_ok hC hT 1 (cf' := (70, [(5, .long ((100 : Int64) * w11)), (3, .long ((100 : Int64) * (((w1.2.2 54) ((w1.2.2 55) a1.toNatClampNeg).toNatClampNeg).toInt64))), (0, .ref 42), (1, .int a1), (2, .int a2)], [.int (-w13), .ref 42], LAY, w1)) (by rfl) ?_
      obtain ⟨w15, ew16, hf⟩ := aBnE hf
      refine aCallV (b := 42) (As := [.int (-w13)]) (rest := []) hC hT rfl k_X11_chance_249.1 _ _ k_X11_chance_249.2 (by decide) (by rfl) (by rfl) (by rfl) (Nat.le_of_ble_eq_true rfl) (by decide) (J_X11_layPairs_42 C.2.2.1 C.1 N (-w13) w1 ew16) ?_
      refine aRun_ok hC hT 10 (cf' := (88, [(5, .long ((100 : Int64) * w11)), (3, .long ((100 : Int64) * (((w1.2.2 54) ((w1.2.2 55) a1.toNatClampNeg).toNatClampNeg).toInt64))), (0, .ref 42), (1, .int a1), (2, .int a2)], [.int a2, .long (((100 : Int64) * w11) + (((w15.1 42 12).toInt64) * (w15.2.1 42 27))), .long ((100 : Int64) * (((w1.2.2 54) ((w1.2.2 55) a1.toNatClampNeg).toNatClampNeg).toInt64))], LAY, w15)) (by rfl) ?_
      obtain ⟨w17, ew18, hf⟩ := aBnE hf
      refine aCallS (As := [.long ((100 : Int64) * (((w1.2.2 54) ((w1.2.2 55) a1.toNatClampNeg).toNatClampNeg).toInt64)), .long (((100 : Int64) * w11) + (((w15.1 42 12).toInt64) * (w15.2.1 42 27))), .int a2]) (rest := []) hC hT rfl k_X11_chance_272.1 _ k_X11_chance_272.2 (by rfl) (Nat.le_of_ble_eq_true rfl) (by decide) (J_X11_lowest C.2.2.1 C.1 N ((100 : Int64) * (((w1.2.2 54) ((w1.2.2 55) a1.toNatClampNeg).toNatClampNeg).toInt64)) (((100 : Int64) * w11) + (((w15.1 42 12).toInt64) * (w15.2.1 42 27))) a2 w15 ew18) ?_
      have e9 := Option.some.inj hf; subst e9
      exact aRetL hC hT hF rfl rfl
    · have hf := aIfT hf hc8
      refine aRun_ok hC hT 1 (cf' := (35, [(0, .ref 42), (1, .int a1), (2, .int a2)], [.long ((-3) : Int64)], LAY, w1)) (by rfl) ?_
      have e9 := Option.some.inj hf; subst e9
      exact aRetL hC hT hF rfl rfl
  · have hf := aIfT hf hc5
    refine aRun_ok hC hT 1 (cf' := (24, [(0, .ref 42), (1, .int a1), (2, .int a2)], [.long ((-2) : Int64)], LAY, w1)) (by rfl) ?_
    have e9 := Option.some.inj hf; subst e9
    exact aRetL hC hT hF rfl rfl
