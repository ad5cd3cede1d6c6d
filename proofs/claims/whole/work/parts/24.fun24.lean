def X11_costWith_42 (N : Nat) (a1 : Int32) (a2 : Int32) (a3 : Int32) (S : aSt) : Option (Int32) := (if aIx (((5 : Int32) * a1) + (1 : Int32)) 150 = true then (if aIx a3 12 = true then (Option.bind (X11_cost N ((S.2.2 45) (((5 : Int32) * a1) + (1 : Int32)).toNatClampNeg) ((S.2.2 49) a3.toNatClampNeg)) (fun w3 => (if w3 = ((-1) : Int32) then some ((1000 : Int32)) else (if aIx ((((13 : Int32) * (a1 + (1 : Int32))) + a3) + (1 : Int32)) 169 = true then some ((((a3 - a2) + w3) + ((S.2.2 58) ((((13 : Int32) * (a1 + (1 : Int32))) + a3) + (1 : Int32)).toNatClampNeg))) else none)))) else none) else none)
set_option maxHeartbeats 4000000 in
set_option maxRecDepth 100000 in
theorem J_X11_costWith_42 (l : Launch) (g : aWg) (N : Nat) (a1 : Int32) (a2 : Int32) (a3 : Int32) (S : aSt) {r : Int32} (hf : X11_costWith_42 N a1 a2 a3 S = (some r)) : aJ l g yX11_costWith M_X11_costWith [.ref 42, .int a1, .int a2, .int a3] LAY S (some (.int r)) LAY S 0 0 := by
  refine aJ_of (by decide +kernel) rfl (Nat.le_of_ble_eq_true rfl) (fun h => nomatch h) ?_
  intro C hg hl hC hz hF
  subst hg; subst hl
  have hT := ok_X11_costWith
  unfold X11_costWith_42 at hf
  show aX C M_X11_costWith 0 0 (0, [(0, .ref 42), (1, .int a1), (2, .int a2), (3, .int a3)], [], LAY, S)
  refine aRun_ok hC hT 7 (cf' := (9, [(0, .ref 42), (1, .int a1), (2, .int a2), (3, .int a3)], [.int (((5 : Int32) * a1) + (1 : Int32)), .ref 45], LAY, S)) (by rfl) ?_
  obtain ⟨hin1, hf⟩ := aGdE hf
  refine aIald hC hT rfl (by decide) (by rfl) hin1 ?_
  refine aRun_ok hC hT 3 (cf' := (15, [(0, .ref 42), (1, .int a1), (2, .int a2), (3, .int a3)], [.int a3, .ref 49, .int ((S.2.2 45) (((5 : Int32) * a1) + (1 : Int32)).toNatClampNeg)], LAY, S)) (by rfl) ?_
  obtain ⟨hin2, hf⟩ := aGdE hf
  refine aIald hC hT rfl (by decide) (by rfl) hin2 ?_
  obtain ⟨w3, ew4, hf⟩ := aBnE hf
  refine aCallS (As := [.int ((S.2.2 45) (((5 : Int32) * a1) + (1 : Int32)).toNatClampNeg), .int ((S.2.2 49) a3.toNatClampNeg)]) (rest := []) hC hT rfl k_X11_costWith_294.1 _ k_X11_costWith_294.2 (by rfl) (Nat.le_of_ble_eq_true rfl) (by decide) (J_X11_cost C.2.2.1 C.1 N ((S.2.2 45) (((5 : Int32) * a1) + (1 : Int32)).toNatClampNeg) ((S.2.2 49) a3.toNatClampNeg) S ew4) ?_
  refine aRun_ok hC hT 3 (cf' := (24, [(4, .int w3), (0, .ref 42), (1, .int a1), (2, .int a2), (3, .int a3)], [.int ((-1) : Int32), .int w3], LAY, S)) (by rfl) ?_
  refine aCmp_ne hC hT (tgt := 33) rfl (by decide) (fun hc5 => ?_) (fun hc5 => ?_)
  · have hf := aIfF hf hc5
    refine aRun_ok hC hT 16 (cf' := (53, [(4, .int w3), (0, .ref 42), (1, .int a1), (2, .int a2), (3, .int a3)], [.int ((((13 : Int32) * (a1 + (1 : Int32))) + a3) + (1 : Int32)), .ref 58, .int ((a3 - a2) + w3)], LAY, S)) (by rfl) ?_
    obtain ⟨hin6, hf⟩ := aGdE hf
    refine aIald hC hT rfl (by decide) (by rfl) hin6 ?_
    refine aRun_ok hC hT 1 (cf' := (55, [(4, .int w3), (0, .ref 42), (1, .int a1), (2, .int a2), (3, .int a3)], [.int (((a3 - a2) + w3) + ((S.2.2 58) ((((13 : Int32) * (a1 + (1 : Int32))) + a3) + (1 : Int32)).toNatClampNeg))], LAY, S)) (by rfl) ?_
    have e9 := Option.some.inj hf; subst e9
    exact aRetI hC hT hF rfl rfl
  · have hf := aIfT hf hc5
    refine aRun_ok hC hT 2 (cf' := (55, [(4, .int w3), (0, .ref 42), (1, .int a1), (2, .int a2), (3, .int a3)], [.int (1000 : Int32)], LAY, S)) (by rfl) ?_
    have e9 := Option.some.inj hf; subst e9
    exact aRetI hC hT hF rfl rfl
def X11_layRest_42_b116 (N : Nat) (rec2 : Int32 → Int32 → aSt → Option (aSt)) (v1 : Int32) (v2 : Int32) (S : aSt) : Option (aSt) := (rec2 v1 (v2 + ((-1) : Int32)) S)
set_option maxHeartbeats 4000000 in
set_option maxRecDepth 100000 in
theorem X11_layRest_42_b116_ok {C : aC} {N : Nat} {rec2 : Int32 → Int32 → aSt → Option (aSt)} (hC : aCx C M_X11_layRest) {r : aSt} (hF : aFin C none LAY r 0 0) (hrec2 : ∀ (v1 : Int32) (v2 : Int32) (S : aSt), rec2 v1 v2 S = (some r) → aX C M_X11_layRest 0 0 (2, [(0, .ref 42), (1, .int v1), (2, .int v2)], [], LAY, S)) (v1 : Int32) (v2 : Int32) (S : aSt) (hf : X11_layRest_42_b116 N rec2 v1 v2 S = (some r)) : aX C M_X11_layRest 0 0 (116, [(0, .ref 42), (1, .int v1), (2, .int v2)], [], LAY, S) := by
  have hT := ok_X11_layRest
  unfold X11_layRest_42_b116 at hf
  refine aRun_ok hC hT 2 (cf' := (2, [(2, .int (v2 + ((-1) : Int32))), (0, .ref 42), (1, .int v1)], [], LAY, S)) (by rfl) ?_
  refine aLocs [1, 2, 0] (lv' := [(0, .ref 42), (1, .int v1), (2, .int (v2 + ((-1) : Int32)))]) rfl ?_
  exact hrec2 v1 (v2 + ((-1) : Int32)) S hf
def X11_layRest_42_b97 (N : Nat) (rec2 : Int32 → Int32 → aSt → Option (aSt)) (rec11 : Int32 → Int32 → Int32 → aSt → Option (aSt)) (v1 : Int32) (v2 : Int32) (v3 : Int32) (v4 : Int32) (S : aSt) : Option (aSt) := (if aIx (((13 : Int32) * v2) + v3) 169 = true then (rec11 v1 v2 (v3 + ((-1) : Int32)) (aA S 58 (upd (S.2.2 58) (((13 : Int32) * v2) + v3).toNatClampNeg v4))) else none)
set_option maxHeartbeats 4000000 in
set_option maxRecDepth 100000 in
theorem X11_layRest_42_b97_ok {C : aC} {N : Nat} {rec2 : Int32 → Int32 → aSt → Option (aSt)} {rec11 : Int32 → Int32 → Int32 → aSt → Option (aSt)} (hC : aCx C M_X11_layRest) {r : aSt} (hF : aFin C none LAY r 0 0) (hrec2 : ∀ (v1 : Int32) (v2 : Int32) (S : aSt), rec2 v1 v2 S = (some r) → aX C M_X11_layRest 0 0 (2, [(0, .ref 42), (1, .int v1), (2, .int v2)], [], LAY, S)) (hrec11 : ∀ (v1 : Int32) (v2 : Int32) (v3 : Int32) (S : aSt), rec11 v1 v2 v3 S = (some r) → aX C M_X11_layRest 0 0 (11, [(0, .ref 42), (1, .int v1), (2, .int v2), (3, .int v3)], [], LAY, S)) (v1 : Int32) (v2 : Int32) (v3 : Int32) (v4 : Int32) (S : aSt) (hf : X11_layRest_42_b97 N rec2 rec11 v1 v2 v3 v4 S = (some r)) : aX C M_X11_layRest 0 0 (97, [(0, .ref 42), (1, .int v1), (2, .int v2), (3, .int v3), (4, .int v4)], [], LAY, S) := by
  have hT := ok_X11_layRest
  unfold X11_layRest_42_b97 at hf
  refine aRun_ok hC hT 8 (cf' := (109, [(0, .ref 42), (1, .int v1), (2, .int v2), (3, .int v3), (4, .int v4)], [.int v4, .int (((13 : Int32) * v2) + v3), .ref 58], LAY, S)) (by rfl) ?_
  obtain ⟨hin6, hf⟩ := aGdE hf
  refine aIast hC hT rfl (by decide) (by rfl) hin6 ?_
  refine aRun_ok hC hT 2 (cf' := (11, [(3, .int (v3 + ((-1) : Int32))), (0, .ref 42), (1, .int v1), (2, .int v2), (4, .int v4)], [], LAY, (aA S 58 (upd (S.2.2 58) (((13 : Int32) * v2) + v3).toNatClampNeg v4)))) (by rfl) ?_
  refine aLocs [1, 2, 3, 0] (lv' := [(0, .ref 42), (1, .int v1), (2, .int v2), (3, .int (v3 + ((-1) : Int32)))]) rfl ?_
  exact hrec11 v1 v2 (v3 + ((-1) : Int32)) (aA S 58 (upd (S.2.2 58) (((13 : Int32) * v2) + v3).toNatClampNeg v4)) hf
def X11_layRest_42_b89 (N : Nat) (rec2 : Int32 → Int32 → aSt → Option (aSt)) (rec11 : Int32 → Int32 → Int32 → aSt → Option (aSt)) (rec49 : Int32 → Int32 → Int32 → Int32 → Int32 → aSt → Option (aSt)) (v1 : Int32) (v2 : Int32) (v3 : Int32) (v5 : Int32) (s0 : Int32) (S : aSt) : Option (aSt) := (rec49 v1 v2 v3 s0 (v5 + (1 : Int32)) S)
set_option maxHeartbeats 4000000 in
set_option maxRecDepth 100000 in
theorem X11_layRest_42_b89_ok {C : aC} {N : Nat} {rec2 : Int32 → Int32 → aSt → Option (aSt)} {rec11 : Int32 → Int32 → Int32 → aSt → Option (aSt)} {rec49 : Int32 → Int32 → Int32 → Int32 → Int32 → aSt → Option (aSt)} (hC : aCx C M_X11_layRest) {r : aSt} (hF : aFin C none LAY r 0 0) (hrec2 : ∀ (v1 : Int32) (v2 : Int32) (S : aSt), rec2 v1 v2 S = (some r) → aX C M_X11_layRest 0 0 (2, [(0, .ref 42), (1, .int v1), (2, .int v2)], [], LAY, S)) (hrec11 : ∀ (v1 : Int32) (v2 : Int32) (v3 : Int32) (S : aSt), rec11 v1 v2 v3 S = (some r) → aX C M_X11_layRest 0 0 (11, [(0, .ref 42), (1, .int v1), (2, .int v2), (3, .int v3)], [], LAY, S)) (hrec49 : ∀ (v1 : Int32) (v2 : Int32) (v3 : Int32) (v4 : Int32) (v5 : Int32) (S : aSt), rec49 v1 v2 v3 v4 v5 S = (some r) → aX C M_X11_layRest 0 0 (49, [(0, .ref 42), (1, .int v1), (2, .int v2), (3, .int v3), (4, .int v4), (5, .int v5)], [], LAY, S)) (v1 : Int32) (v2 : Int32) (v3 : Int32) (v5 : Int32) (s0 : Int32) (S : aSt) (hf : X11_layRest_42_b89 N rec2 rec11 rec49 v1 v2 v3 v5 s0 S = (some r)) : aX C M_X11_layRest 0 0 (89, [(0, .ref 42), (1, .int v1), (2, .int v2), (3, .int v3), (5, .int v5)], [.int s0], LAY, S) := by
  have hT := ok_X11_layRest
  unfold X11_layRest_42_b89 at hf
  refine aRun_ok hC hT 3 (cf' := (49, [(5, .int (v5 + (1 : Int32))), (4, .int s0), (0, .ref 42), (1, .int v1), (2, .int v2), (3, .int v3)], [], LAY, S)) (by rfl) ?_
  refine aLocs [2, 3, 4, 5, 1, 0] (lv' := [(0, .ref 42), (1, .int v1), (2, .int v2), (3, .int v3), (4, .int s0), (5, .int (v5 + (1 : Int32)))]) rfl ?_
  exact hrec49 v1 v2 v3 s0 (v5 + (1 : Int32)) S hf
def X11_layRest_42_b49 (N : Nat) (rec2 : Int32 → Int32 → aSt → Option (aSt)) (rec11 : Int32 → Int32 → Int32 → aSt → Option (aSt)) (rec49 : Int32 → Int32 → Int32 → Int32 → Int32 → aSt → Option (aSt)) (v1 : Int32) (v2 : Int32) (v3 : Int32) (v4 : Int32) (v5 : Int32) (S : aSt) : Option (aSt) := (if (S.1 42 14) ≤ v5 then (X11_layRest_42_b97 N rec2 rec11 v1 v2 v3 v4 S) else (if v1 ≤ v2 then (X11_layRest_42_b97 N rec2 rec11 v1 v2 v3 v4 S) else (Option.bind (X11_costWith_42 N v2 v3 v5 S) (fun w8 => (if v4 ≤ w8 then (X11_layRest_42_b89 N rec2 rec11 rec49 v1 v2 v3 v5 v4 S) else (Option.bind (X11_costWith_42 N v2 v3 v5 S) (fun w11 => (X11_layRest_42_b89 N rec2 rec11 rec49 v1 v2 v3 v5 w11 S))))))))
set_option maxHeartbeats 4000000 in
set_option maxRecDepth 100000 in
theorem X11_layRest_42_b49_ok {C : aC} {N : Nat} {rec2 : Int32 → Int32 → aSt → Option (aSt)} {rec11 : Int32 → Int32 → Int32 → aSt → Option (aSt)} {rec49 : Int32 → Int32 → Int32 → Int32 → Int32 → aSt → Option (aSt)} (hC : aCx C M_X11_layRest) {r : aSt} (hF : aFin C none LAY r 0 0) (hrec2 : ∀ (v1 : Int32) (v2 : Int32) (S : aSt), rec2 v1 v2 S = (some r) → aX C M_X11_layRest 0 0 (2, [(0, .ref 42), (1, .int v1), (2, .int v2)], [], LAY, S)) (hrec11 : ∀ (v1 : Int32) (v2 : Int32) (v3 : Int32) (S : aSt), rec11 v1 v2 v3 S = (some r) → aX C M_X11_layRest 0 0 (11, [(0, .ref 42), (1, .int v1), (2, .int v2), (3, .int v3)], [], LAY, S)) (hrec49 : ∀ (v1 : Int32) (v2 : Int32) (v3 : Int32) (v4 : Int32) (v5 : Int32) (S : aSt), rec49 v1 v2 v3 v4 v5 S = (some r) → aX C M_X11_layRest 0 0 (49, [(0, .ref 42), (1, .int v1), (2, .int v2), (3, .int v3), (4, .int v4), (5, .int v5)], [], LAY, S)) (v1 : Int32) (v2 : Int32) (v3 : Int32) (v4 : Int32) (v5 : Int32) (S : aSt) (hf : X11_layRest_42_b49 N rec2 rec11 rec49 v1 v2 v3 v4 v5 S = (some r)) : aX C M_X11_layRest 0 0 (49, [(0, .ref 42), (1, .int v1), (2, .int v2), (3, .int v3), (4, .int v4), (5, .int v5)], [], LAY, S) := by
  have hT := ok_X11_layRest
  unfold X11_layRest_42_b49 at hf
  refine aRun_ok hC hT 3 (cf' := (55, [(0, .ref 42), (1, .int v1), (2, .int v2), (3, .int v3), (4, .int v4), (5, .int v5)], [.int (S.1 42 14), .int v5], LAY, S)) (by rfl) ?_
  refine aCmp_ge hC hT (tgt := 97) rfl (by decide) (fun hc5 => ?_) (fun hc5 => ?_)
  · have hf := aIfT hf hc5
    refine aLocs [0, 1, 2, 3, 4] (lv' := [(0, .ref 42), (1, .int v1), (2, .int v2), (3, .int v3), (4, .int v4)]) rfl ?_
    exact X11_layRest_42_b97_ok hC hF hrec2 hrec11 v1 v2 v3 v4 S hf
  · have hf := aIfF hf hc5
    refine aRun_ok hC hT 2 (cf' := (60, [(0, .ref 42), (1, .int v1), (2, .int v2), (3, .int v3), (4, .int v4), (5, .int v5)], [.int v1, .int v2], LAY, S)) (by rfl) ?_
    refine aCmp_ge hC hT (tgt := 97) rfl (by decide) (fun hc7 => ?_) (fun hc7 => ?_)
    · have hf := aIfT hf hc7
      refine aLocs [0, 1, 2, 3, 4] (lv' := [(0, .ref 42), (1, .int v1), (2, .int v2), (3, .int v3), (4, .int v4)]) rfl ?_
      exact X11_layRest_42_b97_ok hC hF hrec2 hrec11 v1 v2 v3 v4 S hf
    · have hf := aIfF hf hc7
      refine aRun_ok hC hT 4 (cf' := (68, [(0, .ref 42), (1, .int v1), (2, .int v2), (3, .int v3), (4, .int v4), (5, .int v5)], [.int v5, .int v3, .int v2, .ref 42], LAY, S)) (by rfl) ?_
      obtain ⟨w8, ew9, hf⟩ := aBnE hf
      refine aCallV (b := 42) (As := [.int v2, .int v3, .int v5]) (rest := []) hC hT rfl k_X11_layRest_297.1 _ _ k_X11_layRest_297.2 (by decide) (by rfl) (by rfl) (by rfl) (Nat.le_of_ble_eq_true rfl) (by decide) (J_X11_costWith_42 C.2.2.1 C.1 N v2 v3 v5 S ew9) ?_
      refine aRun_ok hC hT 1 (cf' := (73, [(0, .ref 42), (1, .int v1), (2, .int v2), (3, .int v3), (4, .int v4), (5, .int v5)], [.int v4, .int w8], LAY, S)) (by rfl) ?_
      refine aCmp_ge hC hT (tgt := 87) rfl (by decide) (fun hc10 => ?_) (fun hc10 => ?_)
      · have hf := aIfT hf hc10
        refine aRun_ok hC hT 1 (cf' := (89, [(0, .ref 42), (1, .int v1), (2, .int v2), (3, .int v3), (4, .int v4), (5, .int v5)], [.int v4], LAY, S)) (by rfl) ?_
        refine aLocs [0, 1, 2, 3, 5] (lv' := [(0, .ref 42), (1, .int v1), (2, .int v2), (3, .int v3), (5, .int v5)]) rfl ?_
        exact X11_layRest_42_b89_ok hC hF hrec2 hrec11 hrec49 v1 v2 v3 v5 v4 S hf
      · have hf := aIfF hf hc10
        refine aRun_ok hC hT 4 (cf' := (81, [(0, .ref 42), (1, .int v1), (2, .int v2), (3, .int v3), (4, .int v4), (5, .int v5)], [.int v5, .int v3, .int v2, .ref 42], LAY, S)) (by rfl) ?_
        obtain ⟨w11, ew12, hf⟩ := aBnE hf
        refine aCallV (b := 42) (As := [.int v2, .int v3, .int v5]) (rest := []) hC hT rfl k_X11_layRest_297.1 _ _ k_X11_layRest_297.2 (by decide) (by rfl) (by rfl) (by rfl) (Nat.le_of_ble_eq_true rfl) (by decide) (J_X11_costWith_42 C.2.2.1 C.1 N v2 v3 v5 S ew12) ?_
        refine aRun_ok hC hT 1 (cf' := (89, [(0, .ref 42), (1, .int v1), (2, .int v2), (3, .int v3), (4, .int v4), (5, .int v5)], [.int w11], LAY, S)) (by rfl) ?_
        refine aLocs [0, 1, 2, 3, 5] (lv' := [(0, .ref 42), (1, .int v1), (2, .int v2), (3, .int v3), (5, .int v5)]) rfl ?_
        exact X11_layRest_42_b89_ok hC hF hrec2 hrec11 hrec49 v1 v2 v3 v5 w11 S hf
def X11_layRest_42_l49 (N : Nat) (rec2 : Int32 → Int32 → aSt → Option (aSt)) (rec11 : Int32 → Int32 → Int32 → aSt → Option (aSt)) : Nat → Int32 → Int32 → Int32 → Int32 → Int32 → aSt → Option (aSt)
  | 0 => fun _ _ _ _ _ _ => none
  | n + 1 => X11_layRest_42_b49 N rec2 rec11 (X11_layRest_42_l49 N rec2 rec11 n)
theorem X11_layRest_42_l49_ok {C : aC} {N : Nat} {rec2 : Int32 → Int32 → aSt → Option (aSt)} {rec11 : Int32 → Int32 → Int32 → aSt → Option (aSt)} (hC : aCx C M_X11_layRest) {r : aSt} (hF : aFin C none LAY r 0 0) (hrec2 : ∀ (v1 : Int32) (v2 : Int32) (S : aSt), rec2 v1 v2 S = (some r) → aX C M_X11_layRest 0 0 (2, [(0, .ref 42), (1, .int v1), (2, .int v2)], [], LAY, S)) (hrec11 : ∀ (v1 : Int32) (v2 : Int32) (v3 : Int32) (S : aSt), rec11 v1 v2 v3 S = (some r) → aX C M_X11_layRest 0 0 (11, [(0, .ref 42), (1, .int v1), (2, .int v2), (3, .int v3)], [], LAY, S)) : ∀ (n : Nat) (v1 : Int32) (v2 : Int32) (v3 : Int32) (v4 : Int32) (v5 : Int32) (S : aSt), X11_layRest_42_l49 N rec2 rec11 n v1 v2 v3 v4 v5 S = (some r) → aX C M_X11_layRest 0 0 (49, [(0, .ref 42), (1, .int v1), (2, .int v2), (3, .int v3), (4, .int v4), (5, .int v5)], [], LAY, S)
  | 0, _, _, _, _, _, _,  h => nomatch (show (none : Option (aSt)) = some _ from h)
  | n + 1, v1, v2, v3, v4, v5, S,  h => X11_layRest_42_b49_ok hC hF hrec2 hrec11 (fun v1 v2 v3 v4 v5 S h => X11_layRest_42_l49_ok hC hF hrec2 hrec11 n v1 v2 v3 v4 v5 S h) v1 v2 v3 v4 v5 S h
def X11_layRest_42_b44 (N : Nat) (rec2 : Int32 → Int32 → aSt → Option (aSt)) (rec11 : Int32 → Int32 → Int32 → aSt → Option (aSt)) (v1 : Int32) (v2 : Int32) (v3 : Int32) (s0 : Int32) (S : aSt) : Option (aSt) := (X11_layRest_42_l49 N rec2 rec11 N v1 v2 v3 s0 v3 S)
set_option maxHeartbeats 4000000 in
set_option maxRecDepth 100000 in
theorem X11_layRest_42_b44_ok {C : aC} {N : Nat} {rec2 : Int32 → Int32 → aSt → Option (aSt)} {rec11 : Int32 → Int32 → Int32 → aSt → Option (aSt)} (hC : aCx C M_X11_layRest) {r : aSt} (hF : aFin C none LAY r 0 0) (hrec2 : ∀ (v1 : Int32) (v2 : Int32) (S : aSt), rec2 v1 v2 S = (some r) → aX C M_X11_layRest 0 0 (2, [(0, .ref 42), (1, .int v1), (2, .int v2)], [], LAY, S)) (hrec11 : ∀ (v1 : Int32) (v2 : Int32) (v3 : Int32) (S : aSt), rec11 v1 v2 v3 S = (some r) → aX C M_X11_layRest 0 0 (11, [(0, .ref 42), (1, .int v1), (2, .int v2), (3, .int v3)], [], LAY, S)) (v1 : Int32) (v2 : Int32) (v3 : Int32) (s0 : Int32) (S : aSt) (hf : X11_layRest_42_b44 N rec2 rec11 v1 v2 v3 s0 S = (some r)) : aX C M_X11_layRest 0 0 (44, [(0, .ref 42), (1, .int v1), (2, .int v2), (3, .int v3)], [.int s0], LAY, S) := by
  have hT := ok_X11_layRest
  unfold X11_layRest_42_b44 at hf
  refine aRun_ok hC hT 3 (cf' := (49, [(5, .int v3), (4, .int s0), (0, .ref 42), (1, .int v1), (2, .int v2), (3, .int v3)], [], LAY, S)) (by rfl) ?_
  refine aLocs [2, 3, 4, 5, 1, 0] (lv' := [(0, .ref 42), (1, .int v1), (2, .int v2), (3, .int v3), (4, .int s0), (5, .int v3)]) rfl ?_
  exact X11_layRest_42_l49_ok hC hF hrec2 hrec11 N v1 v2 v3 s0 v3 S hf
def X11_layRest_42_b11 (N : Nat) (rec2 : Int32 → Int32 → aSt → Option (aSt)) (rec11 : Int32 → Int32 → Int32 → aSt → Option (aSt)) (v1 : Int32) (v2 : Int32) (v3 : Int32) (S : aSt) : Option (aSt) := (if v3 < (0 : Int32) then (X11_layRest_42_b116 N rec2 v1 v2 S) else (if v2 = v1 then (X11_layRest_42_b44 N rec2 rec11 v1 v2 v3 ((S.1 42 14) - v3) S) else (if aIx (((13 : Int32) * (v2 + (1 : Int32))) + v3) 169 = true then (X11_layRest_42_b44 N rec2 rec11 v1 v2 v3 ((1 : Int32) + ((S.2.2 58) (((13 : Int32) * (v2 + (1 : Int32))) + v3).toNatClampNeg)) S) else none)))
set_option maxHeartbeats 4000000 in
set_option maxRecDepth 100000 in
theorem X11_layRest_42_b11_ok {C : aC} {N : Nat} {rec2 : Int32 → Int32 → aSt → Option (aSt)} {rec11 : Int32 → Int32 → Int32 → aSt → Option (aSt)} (hC : aCx C M_X11_layRest) {r : aSt} (hF : aFin C none LAY r 0 0) (hrec2 : ∀ (v1 : Int32) (v2 : Int32) (S : aSt), rec2 v1 v2 S = (some r) → aX C M_X11_layRest 0 0 (2, [(0, .ref 42), (1, .int v1), (2, .int v2)], [], LAY, S)) (hrec11 : ∀ (v1 : Int32) (v2 : Int32) (v3 : Int32) (S : aSt), rec11 v1 v2 v3 S = (some r) → aX C M_X11_layRest 0 0 (11, [(0, .ref 42), (1, .int v1), (2, .int v2), (3, .int v3)], [], LAY, S)) (v1 : Int32) (v2 : Int32) (v3 : Int32) (S : aSt) (hf : X11_layRest_42_b11 N rec2 rec11 v1 v2 v3 S = (some r)) : aX C M_X11_layRest 0 0 (11, [(0, .ref 42), (1, .int v1), (2, .int v2), (3, .int v3)], [], LAY, S) := by
  have hT := ok_X11_layRest
  unfold X11_layRest_42_b11 at hf
  refine aRun_ok hC hT 1 (cf' := (12, [(0, .ref 42), (1, .int v1), (2, .int v2), (3, .int v3)], [.int v3], LAY, S)) (by rfl) ?_
  refine aIf_lt hC hT (tgt := 116) rfl (by decide) (fun hc2 => ?_) (fun hc2 => ?_)
  · have hf := aIfT hf hc2
    refine aLocs [0, 1, 2] (lv' := [(0, .ref 42), (1, .int v1), (2, .int v2)]) rfl ?_
    exact X11_layRest_42_b116_ok hC hF hrec2 v1 v2 S hf
  · have hf := aIfF hf hc2
    refine aRun_ok hC hT 2 (cf' := (17, [(0, .ref 42), (1, .int v1), (2, .int v2), (3, .int v3)], [.int v1, .int v2], LAY, S)) (by rfl) ?_
    refine aCmp_ne hC hT (tgt := 29) rfl (by decide) (fun hc3 => ?_) (fun hc3 => ?_)
    · have hf := aIfF hf hc3
      refine aRun_ok hC hT 10 (cf' := (42, [(0, .ref 42), (1, .int v1), (2, .int v2), (3, .int v3)], [.int (((13 : Int32) * (v2 + (1 : Int32))) + v3), .ref 58, .int (1 : Int32)], LAY, S)) (by rfl) ?_
      obtain ⟨hin4, hf⟩ := aGdE hf
      refine aIald hC hT rfl (by decide) (by rfl) hin4 ?_
      refine aRun_ok hC hT 1 (cf' := (44, [(0, .ref 42), (1, .int v1), (2, .int v2), (3, .int v3)], [.int ((1 : Int32) + ((S.2.2 58) (((13 : Int32) * (v2 + (1 : Int32))) + v3).toNatClampNeg))], LAY, S)) (by rfl) ?_
      exact X11_layRest_42_b44_ok hC hF hrec2 hrec11 v1 v2 v3 ((1 : Int32) + ((S.2.2 58) (((13 : Int32) * (v2 + (1 : Int32))) + v3).toNatClampNeg)) S hf
    · have hf := aIfT hf hc3
      refine aRun_ok hC hT 5 (cf' := (44, [(0, .ref 42), (1, .int v1), (2, .int v2), (3, .int v3)], [.int ((S.1 42 14) - v3)], LAY, S)) (by rfl) ?_
      exact X11_layRest_42_b44_ok hC hF hrec2 hrec11 v1 v2 v3 ((S.1 42 14) - v3) S hf
def X11_layRest_42_l11 (N : Nat) (rec2 : Int32 → Int32 → aSt → Option (aSt)) : Nat → Int32 → Int32 → Int32 → aSt → Option (aSt)
  | 0 => fun _ _ _ _ => none
  | n + 1 => X11_layRest_42_b11 N rec2 (X11_layRest_42_l11 N rec2 n)
theorem X11_layRest_42_l11_ok {C : aC} {N : Nat} {rec2 : Int32 → Int32 → aSt → Option (aSt)} (hC : aCx C M_X11_layRest) {r : aSt} (hF : aFin C none LAY r 0 0) (hrec2 : ∀ (v1 : Int32) (v2 : Int32) (S : aSt), rec2 v1 v2 S = (some r) → aX C M_X11_layRest 0 0 (2, [(0, .ref 42), (1, .int v1), (2, .int v2)], [], LAY, S)) : ∀ (n : Nat) (v1 : Int32) (v2 : Int32) (v3 : Int32) (S : aSt), X11_layRest_42_l11 N rec2 n v1 v2 v3 S = (some r) → aX C M_X11_layRest 0 0 (11, [(0, .ref 42), (1, .int v1), (2, .int v2), (3, .int v3)], [], LAY, S)
  | 0, _, _, _, _,  h => nomatch (show (none : Option (aSt)) = some _ from h)
  | n + 1, v1, v2, v3, S,  h => X11_layRest_42_b11_ok hC hF hrec2 (fun v1 v2 v3 S h => X11_layRest_42_l11_ok hC hF hrec2 n v1 v2 v3 S h) v1 v2 v3 S h
def X11_layRest_42_b2 (N : Nat) (rec2 : Int32 → Int32 → aSt → Option (aSt)) (v1 : Int32) (v2 : Int32) (S : aSt) : Option (aSt) := (if v2 < (0 : Int32) then some (S) else (X11_layRest_42_l11 N rec2 N v1 v2 (S.1 42 14) S))
set_option maxHeartbeats 4000000 in
set_option maxRecDepth 100000 in
theorem X11_layRest_42_b2_ok {C : aC} {N : Nat} {rec2 : Int32 → Int32 → aSt → Option (aSt)} (hC : aCx C M_X11_layRest) {r : aSt} (hF : aFin C none LAY r 0 0) (hrec2 : ∀ (v1 : Int32) (v2 : Int32) (S : aSt), rec2 v1 v2 S = (some r) → aX C M_X11_layRest 0 0 (2, [(0, .ref 42), (1, .int v1), (2, .int v2)], [], LAY, S)) (v1 : Int32) (v2 : Int32) (S : aSt) (hf : X11_layRest_42_b2 N rec2 v1 v2 S = (some r)) : aX C M_X11_layRest 0 0 (2, [(0, .ref 42), (1, .int v1), (2, .int v2)], [], LAY, S) := by
  have hT := ok_X11_layRest
  unfold X11_layRest_42_b2 at hf
  refine aRun_ok hC hT 1 (cf' := (3, [(0, .ref 42), (1, .int v1), (2, .int v2)], [.int v2], LAY, S)) (by rfl) ?_
  refine aIf_lt hC hT (tgt := 122) rfl (by decide) (fun hc1 => ?_) (fun hc1 => ?_)
  · have hf := aIfT hf hc1
    have e9 := Option.some.inj hf; subst e9
    exact aRetV hC hT hF rfl rfl
  · have hf := aIfF hf hc1
    refine aRun_ok hC hT 3 (cf' := (11, [(3, .int (S.1 42 14)), (0, .ref 42), (1, .int v1), (2, .int v2)], [], LAY, S)) (by rfl) ?_
    refine aLocs [1, 2, 3, 0] (lv' := [(0, .ref 42), (1, .int v1), (2, .int v2), (3, .int (S.1 42 14))]) rfl ?_
    exact X11_layRest_42_l11_ok hC hF hrec2 N v1 v2 (S.1 42 14) S hf
def X11_layRest_42_l2 (N : Nat) : Nat → Int32 → Int32 → aSt → Option (aSt)
  | 0 => fun _ _ _ => none
  | n + 1 => X11_layRest_42_b2 N (X11_layRest_42_l2 N n)
theorem X11_layRest_42_l2_ok {C : aC} {N : Nat} (hC : aCx C M_X11_layRest) {r : aSt} (hF : aFin C none LAY r 0 0) : ∀ (n : Nat) (v1 : Int32) (v2 : Int32) (S : aSt), X11_layRest_42_l2 N n v1 v2 S = (some r) → aX C M_X11_layRest 0 0 (2, [(0, .ref 42), (1, .int v1), (2, .int v2)], [], LAY, S)
  | 0, _, _, _,  h => nomatch (show (none : Option (aSt)) = some _ from h)
  | n + 1, v1, v2, S,  h => X11_layRest_42_b2_ok hC hF (fun v1 v2 S h => X11_layRest_42_l2_ok hC hF n v1 v2 S h) v1 v2 S h
def X11_layRest_42 (N : Nat) (a1 : Int32) (S : aSt) : Option (aSt) := (X11_layRest_42_l2 N N a1 a1 S)
set_option maxHeartbeats 4000000 in
set_option maxRecDepth 100000 in
theorem J_X11_layRest_42 (l : Launch) (g : aWg) (N : Nat) (a1 : Int32) (S : aSt) {r : aSt} (hf : X11_layRest_42 N a1 S = (some r)) : aJ l g yX11_layRest M_X11_layRest [.ref 42, .int a1] LAY S none LAY r 0 0 := by
  refine aJ_of (by decide +kernel) rfl (Nat.le_of_ble_eq_true rfl) (fun h => nomatch h) ?_
  intro C hg hl hC hz hF
  subst hg; subst hl
  have hT := ok_X11_layRest
  unfold X11_layRest_42 at hf
  show aX C M_X11_layRest 0 0 (0, [(0, .ref 42), (1, .int a1)], [], LAY, S)
  refine aRun_ok hC hT 2 (cf' := (2, [(2, .int a1), (0, .ref 42), (1, .int a1)], [], LAY, S)) (by rfl) ?_
  refine aLocs [1, 2, 0] (lv' := [(0, .ref 42), (1, .int a1), (2, .int a1)]) rfl ?_
  exact X11_layRest_42_l2_ok hC hF N a1 a1 S hf
def X11_match_42_b142 (N : Nat) (rec63 : Int32 → Int32 → Int32 → Int32 → aSt → Option (Int32 × aSt)) (v2 : Int32) (v4 : Int32) (v5 : Int32) (s0 : Int32) (S : aSt) : Option (Int32 × aSt) := (rec63 v2 s0 v4 (v5 + (1 : Int32)) S)
set_option maxHeartbeats 4000000 in
set_option maxRecDepth 100000 in
theorem X11_match_42_b142_ok {C : aC} {N : Nat} {rec63 : Int32 → Int32 → Int32 → Int32 → aSt → Option (Int32 × aSt)} (hC : aCx C M_X11_match) {r : Int32 × aSt} (hF : aFin C (some (.int r.1)) LAY r.2 0 0) (hrec63 : ∀ (v2 : Int32) (v3 : Int32) (v4 : Int32) (v5 : Int32) (S : aSt), rec63 v2 v3 v4 v5 S = (some r) → aX C M_X11_match 0 0 (63, [(0, .ref 42), (2, .int v2), (3, .int v3), (4, .int v4), (5, .int v5)], [], LAY, S)) (v2 : Int32) (v4 : Int32) (v5 : Int32) (s0 : Int32) (S : aSt) (hf : X11_match_42_b142 N rec63 v2 v4 v5 s0 S = (some r)) : aX C M_X11_match 0 0 (142, [(0, .ref 42), (2, .int v2), (4, .int v4), (5, .int v5)], [.int s0], LAY, S) := by
  have hT := ok_X11_match
  unfold X11_match_42_b142 at hf
  refine aRun_ok hC hT 3 (cf' := (63, [(5, .int (v5 + (1 : Int32))), (3, .int s0), (0, .ref 42), (2, .int v2), (4, .int v4)], [], LAY, S)) (by rfl) ?_
  refine aLocs [2, 3, 1, 4, 0] (lv' := [(0, .ref 42), (2, .int v2), (3, .int s0), (4, .int v4), (5, .int (v5 + (1 : Int32)))]) rfl ?_
  exact hrec63 v2 s0 v4 (v5 + (1 : Int32)) S hf
def X11_match_42_b128 (N : Nat) (rec63 : Int32 → Int32 → Int32 → Int32 → aSt → Option (Int32 × aSt)) (v2 : Int32) (v3 : Int32) (v4 : Int32) (v5 : Int32) (S : aSt) : Option (Int32 × aSt) := (if v4 = ((-1) : Int32) then (X11_match_42_b142 N rec63 v2 v4 v5 v3 S) else (X11_match_42_b142 N rec63 v2 v4 v5 (v4 + (1 : Int32)) S))
set_option maxHeartbeats 4000000 in
set_option maxRecDepth 100000 in
theorem X11_match_42_b128_ok {C : aC} {N : Nat} {rec63 : Int32 → Int32 → Int32 → Int32 → aSt → Option (Int32 × aSt)} (hC : aCx C M_X11_match) {r : Int32 × aSt} (hF : aFin C (some (.int r.1)) LAY r.2 0 0) (hrec63 : ∀ (v2 : Int32) (v3 : Int32) (v4 : Int32) (v5 : Int32) (S : aSt), rec63 v2 v3 v4 v5 S = (some r) → aX C M_X11_match 0 0 (63, [(0, .ref 42), (2, .int v2), (3, .int v3), (4, .int v4), (5, .int v5)], [], LAY, S)) (v2 : Int32) (v3 : Int32) (v4 : Int32) (v5 : Int32) (S : aSt) (hf : X11_match_42_b128 N rec63 v2 v3 v4 v5 S = (some r)) : aX C M_X11_match 0 0 (128, [(0, .ref 42), (2, .int v2), (3, .int v3), (4, .int v4), (5, .int v5)], [], LAY, S) := by
  have hT := ok_X11_match
  unfold X11_match_42_b128 at hf
  refine aRun_ok hC hT 2 (cf' := (131, [(0, .ref 42), (2, .int v2), (3, .int v3), (4, .int v4), (5, .int v5)], [.int ((-1) : Int32), .int v4], LAY, S)) (by rfl) ?_
  refine aCmp_ne hC hT (tgt := 138) rfl (by decide) (fun hc13 => ?_) (fun hc13 => ?_)
  · have hf := aIfF hf hc13
    refine aRun_ok hC hT 3 (cf' := (142, [(0, .ref 42), (2, .int v2), (3, .int v3), (4, .int v4), (5, .int v5)], [.int (v4 + (1 : Int32))], LAY, S)) (by rfl) ?_
    refine aLocs [0, 1, 3, 4] (lv' := [(0, .ref 42), (2, .int v2), (4, .int v4), (5, .int v5)]) rfl ?_
    exact X11_match_42_b142_ok hC hF hrec63 v2 v4 v5 (v4 + (1 : Int32)) S hf
  · have hf := aIfT hf hc13
    refine aRun_ok hC hT 2 (cf' := (142, [(0, .ref 42), (2, .int v2), (3, .int v3), (4, .int v4), (5, .int v5)], [.int v3], LAY, S)) (by rfl) ?_
    refine aLocs [0, 1, 3, 4] (lv' := [(0, .ref 42), (2, .int v2), (4, .int v4), (5, .int v5)]) rfl ?_
    exact X11_match_42_b142_ok hC hF hrec63 v2 v4 v5 v3 S hf
def X11_match_42_b120 (N : Nat) (rec63 : Int32 → Int32 → Int32 → Int32 → aSt → Option (Int32 × aSt)) (rec75 : Int32 → Int32 → Int32 → Int32 → Int32 → aSt → Option (Int32 × aSt)) (v2 : Int32) (v3 : Int32) (v5 : Int32) (v6 : Int32) (s0 : Int32) (S : aSt) : Option (Int32 × aSt) := (rec75 v2 v3 s0 v5 (v6 + (1 : Int32)) S)
set_option maxHeartbeats 4000000 in
set_option maxRecDepth 100000 in
theorem X11_match_42_b120_ok {C : aC} {N : Nat} {rec63 : Int32 → Int32 → Int32 → Int32 → aSt → Option (Int32 × aSt)} {rec75 : Int32 → Int32 → Int32 → Int32 → Int32 → aSt → Option (Int32 × aSt)} (hC : aCx C M_X11_match) {r : Int32 × aSt} (hF : aFin C (some (.int r.1)) LAY r.2 0 0) (hrec63 : ∀ (v2 : Int32) (v3 : Int32) (v4 : Int32) (v5 : Int32) (S : aSt), rec63 v2 v3 v4 v5 S = (some r) → aX C M_X11_match 0 0 (63, [(0, .ref 42), (2, .int v2), (3, .int v3), (4, .int v4), (5, .int v5)], [], LAY, S)) (hrec75 : ∀ (v2 : Int32) (v3 : Int32) (v4 : Int32) (v5 : Int32) (v6 : Int32) (S : aSt), rec75 v2 v3 v4 v5 v6 S = (some r) → aX C M_X11_match 0 0 (75, [(0, .ref 42), (2, .int v2), (3, .int v3), (4, .int v4), (5, .int v5), (6, .int v6)], [], LAY, S)) (v2 : Int32) (v3 : Int32) (v5 : Int32) (v6 : Int32) (s0 : Int32) (S : aSt) (hf : X11_match_42_b120 N rec63 rec75 v2 v3 v5 v6 s0 S = (some r)) : aX C M_X11_match 0 0 (120, [(0, .ref 42), (2, .int v2), (3, .int v3), (5, .int v5), (6, .int v6)], [.int s0], LAY, S) := by
  have hT := ok_X11_match
  unfold X11_match_42_b120 at hf
  refine aRun_ok hC hT 3 (cf' := (75, [(6, .int (v6 + (1 : Int32))), (4, .int s0), (0, .ref 42), (2, .int v2), (3, .int v3), (5, .int v5)], [], LAY, S)) (by rfl) ?_
  refine aLocs [2, 3, 4, 1, 5, 0] (lv' := [(0, .ref 42), (2, .int v2), (3, .int v3), (4, .int s0), (5, .int v5), (6, .int (v6 + (1 : Int32)))]) rfl ?_
  exact hrec75 v2 v3 s0 v5 (v6 + (1 : Int32)) S hf
def X11_match_42_b75 (N : Nat) (rec63 : Int32 → Int32 → Int32 → Int32 → aSt → Option (Int32 × aSt)) (rec75 : Int32 → Int32 → Int32 → Int32 → Int32 → aSt → Option (Int32 × aSt)) (v2 : Int32) (v3 : Int32) (v4 : Int32) (v5 : Int32) (v6 : Int32) (S : aSt) : Option (Int32 × aSt) := (if (S.1 42 14) ≤ v6 then (X11_match_42_b128 N rec63 v2 v3 v4 v5 S) else (if v4 = ((-1) : Int32) then (Option.bind (X11_costWith_42 N v5 v3 v6 S) (fun w15 => (if aIx (((13 : Int32) * v5) + v3) 169 = true then (if w15 = ((S.2.2 58) (((13 : Int32) * v5) + v3).toNatClampNeg) then (X11_match_42_b120 N rec63 rec75 v2 v3 v5 v6 v6 S) else (X11_match_42_b120 N rec63 rec75 v2 v3 v5 v6 ((-1) : Int32) S)) else none))) else (X11_match_42_b128 N rec63 v2 v3 v4 v5 S)))
set_option maxHeartbeats 4000000 in
set_option maxRecDepth 100000 in
theorem X11_match_42_b75_ok {C : aC} {N : Nat} {rec63 : Int32 → Int32 → Int32 → Int32 → aSt → Option (Int32 × aSt)} {rec75 : Int32 → Int32 → Int32 → Int32 → Int32 → aSt → Option (Int32 × aSt)} (hC : aCx C M_X11_match) {r : Int32 × aSt} (hF : aFin C (some (.int r.1)) LAY r.2 0 0) (hrec63 : ∀ (v2 : Int32) (v3 : Int32) (v4 : Int32) (v5 : Int32) (S : aSt), rec63 v2 v3 v4 v5 S = (some r) → aX C M_X11_match 0 0 (63, [(0, .ref 42), (2, .int v2), (3, .int v3), (4, .int v4), (5, .int v5)], [], LAY, S)) (hrec75 : ∀ (v2 : Int32) (v3 : Int32) (v4 : Int32) (v5 : Int32) (v6 : Int32) (S : aSt), rec75 v2 v3 v4 v5 v6 S = (some r) → aX C M_X11_match 0 0 (75, [(0, .ref 42), (2, .int v2), (3, .int v3), (4, .int v4), (5, .int v5), (6, .int v6)], [], LAY, S)) (v2 : Int32) (v3 : Int32) (v4 : Int32) (v5 : Int32) (v6 : Int32) (S : aSt) (hf : X11_match_42_b75 N rec63 rec75 v2 v3 v4 v5 v6 S = (some r)) : aX C M_X11_match 0 0 (75, [(0, .ref 42), (2, .int v2), (3, .int v3), (4, .int v4), (5, .int v5), (6, .int v6)], [], LAY, S) := by
  have hT := ok_X11_match
  unfold X11_match_42_b75 at hf
  refine aRun_ok hC hT 3 (cf' := (81, [(0, .ref 42), (2, .int v2), (3, .int v3), (4, .int v4), (5, .int v5), (6, .int v6)], [.int (S.1 42 14), .int v6], LAY, S)) (by rfl) ?_
  refine aCmp_ge hC hT (tgt := 128) rfl (by decide) (fun hc12 => ?_) (fun hc12 => ?_)
  · have hf := aIfT hf hc12
    refine aLocs [0, 1, 2, 3, 4] (lv' := [(0, .ref 42), (2, .int v2), (3, .int v3), (4, .int v4), (5, .int v5)]) rfl ?_
    exact X11_match_42_b128_ok hC hF hrec63 v2 v3 v4 v5 S hf
  · have hf := aIfF hf hc12
    refine aRun_ok hC hT 2 (cf' := (87, [(0, .ref 42), (2, .int v2), (3, .int v3), (4, .int v4), (5, .int v5), (6, .int v6)], [.int ((-1) : Int32), .int v4], LAY, S)) (by rfl) ?_
    refine aCmp_ne hC hT (tgt := 128) rfl (by decide) (fun hc14 => ?_) (fun hc14 => ?_)
    · have hf := aIfF hf hc14
      refine aLocs [0, 1, 2, 3, 4] (lv' := [(0, .ref 42), (2, .int v2), (3, .int v3), (4, .int v4), (5, .int v5)]) rfl ?_
      exact X11_match_42_b128_ok hC hF hrec63 v2 v3 v4 v5 S hf
    · have hf := aIfT hf hc14
      refine aRun_ok hC hT 4 (cf' := (96, [(0, .ref 42), (2, .int v2), (3, .int v3), (4, .int v4), (5, .int v5), (6, .int v6)], [.int v6, .int v3, .int v5, .ref 42], LAY, S)) (by rfl) ?_
      obtain ⟨w15, ew16, hf⟩ := aBnE hf
      refine aCallV (b := 42) (As := [.int v5, .int v3, .int v6]) (rest := []) hC hT rfl k_X11_match_297.1 _ _ k_X11_match_297.2 (by decide) (by rfl) (by rfl) (by rfl) (Nat.le_of_ble_eq_true rfl) (by decide) (J_X11_costWith_42 C.2.2.1 C.1 N v5 v3 v6 S ew16) ?_
      refine aRun_ok hC hT 7 (cf' := (110, [(0, .ref 42), (2, .int v2), (3, .int v3), (4, .int v4), (5, .int v5), (6, .int v6)], [.int (((13 : Int32) * v5) + v3), .ref 58, .int w15], LAY, S)) (by rfl) ?_
      obtain ⟨hin17, hf⟩ := aGdE hf
      refine aIald hC hT rfl (by decide) (by rfl) hin17 ?_
      refine aCmp_ne hC hT (tgt := 119) rfl (by decide) (fun hc18 => ?_) (fun hc18 => ?_)
      · have hf := aIfF hf hc18
        refine aRun_ok hC hT 1 (cf' := (120, [(0, .ref 42), (2, .int v2), (3, .int v3), (4, .int v4), (5, .int v5), (6, .int v6)], [.int ((-1) : Int32)], LAY, S)) (by rfl) ?_
        refine aLocs [0, 1, 2, 4, 5] (lv' := [(0, .ref 42), (2, .int v2), (3, .int v3), (5, .int v5), (6, .int v6)]) rfl ?_
        exact X11_match_42_b120_ok hC hF hrec63 hrec75 v2 v3 v5 v6 ((-1) : Int32) S hf
      · have hf := aIfT hf hc18
        refine aRun_ok hC hT 2 (cf' := (120, [(0, .ref 42), (2, .int v2), (3, .int v3), (4, .int v4), (5, .int v5), (6, .int v6)], [.int v6], LAY, S)) (by rfl) ?_
        refine aLocs [0, 1, 2, 4, 5] (lv' := [(0, .ref 42), (2, .int v2), (3, .int v3), (5, .int v5), (6, .int v6)]) rfl ?_
        exact X11_match_42_b120_ok hC hF hrec63 hrec75 v2 v3 v5 v6 v6 S hf
def X11_match_42_l75 (N : Nat) (rec63 : Int32 → Int32 → Int32 → Int32 → aSt → Option (Int32 × aSt)) : Nat → Int32 → Int32 → Int32 → Int32 → Int32 → aSt → Option (Int32 × aSt)
  | 0 => fun _ _ _ _ _ _ => none
  | n + 1 => X11_match_42_b75 N rec63 (X11_match_42_l75 N rec63 n)
theorem X11_match_42_l75_ok {C : aC} {N : Nat} {rec63 : Int32 → Int32 → Int32 → Int32 → aSt → Option (Int32 × aSt)} (hC : aCx C M_X11_match) {r : Int32 × aSt} (hF : aFin C (some (.int r.1)) LAY r.2 0 0) (hrec63 : ∀ (v2 : Int32) (v3 : Int32) (v4 : Int32) (v5 : Int32) (S : aSt), rec63 v2 v3 v4 v5 S = (some r) → aX C M_X11_match 0 0 (63, [(0, .ref 42), (2, .int v2), (3, .int v3), (4, .int v4), (5, .int v5)], [], LAY, S)) : ∀ (n : Nat) (v2 : Int32) (v3 : Int32) (v4 : Int32) (v5 : Int32) (v6 : Int32) (S : aSt), X11_match_42_l75 N rec63 n v2 v3 v4 v5 v6 S = (some r) → aX C M_X11_match 0 0 (75, [(0, .ref 42), (2, .int v2), (3, .int v3), (4, .int v4), (5, .int v5), (6, .int v6)], [], LAY, S)
  | 0, _, _, _, _, _, _,  h => nomatch (show (none : Option (Int32 × aSt)) = some _ from h)
  | n + 1, v2, v3, v4, v5, v6, S,  h => X11_match_42_b75_ok hC hF hrec63 (fun v2 v3 v4 v5 v6 S h => X11_match_42_l75_ok hC hF hrec63 n v2 v3 v4 v5 v6 S h) v2 v3 v4 v5 v6 S h
def X11_match_42_b63 (N : Nat) (rec63 : Int32 → Int32 → Int32 → Int32 → aSt → Option (Int32 × aSt)) (v2 : Int32) (v3 : Int32) (v4 : Int32) (v5 : Int32) (S : aSt) : Option (Int32 × aSt) := (if v2 < v5 then some ((v4, S)) else (X11_match_42_l75 N rec63 N v2 v3 ((-1) : Int32) v5 v3 S))
set_option maxHeartbeats 4000000 in
set_option maxRecDepth 100000 in
theorem X11_match_42_b63_ok {C : aC} {N : Nat} {rec63 : Int32 → Int32 → Int32 → Int32 → aSt → Option (Int32 × aSt)} (hC : aCx C M_X11_match) {r : Int32 × aSt} (hF : aFin C (some (.int r.1)) LAY r.2 0 0) (hrec63 : ∀ (v2 : Int32) (v3 : Int32) (v4 : Int32) (v5 : Int32) (S : aSt), rec63 v2 v3 v4 v5 S = (some r) → aX C M_X11_match 0 0 (63, [(0, .ref 42), (2, .int v2), (3, .int v3), (4, .int v4), (5, .int v5)], [], LAY, S)) (v2 : Int32) (v3 : Int32) (v4 : Int32) (v5 : Int32) (S : aSt) (hf : X11_match_42_b63 N rec63 v2 v3 v4 v5 S = (some r)) : aX C M_X11_match 0 0 (63, [(0, .ref 42), (2, .int v2), (3, .int v3), (4, .int v4), (5, .int v5)], [], LAY, S) := by
  have hT := ok_X11_match
  unfold X11_match_42_b63 at hf
  refine aRun_ok hC hT 2 (cf' := (66, [(0, .ref 42), (2, .int v2), (3, .int v3), (4, .int v4), (5, .int v5)], [.int v2, .int v5], LAY, S)) (by rfl) ?_
  refine aCmp_gt hC hT (tgt := 149) rfl (by decide) (fun hc11 => ?_) (fun hc11 => ?_)
  · have hf := aIfT hf hc11
    refine aRun_ok hC hT 1 (cf' := (151, [(0, .ref 42), (2, .int v2), (3, .int v3), (4, .int v4), (5, .int v5)], [.int v4], LAY, S)) (by rfl) ?_
    have e9 := Option.some.inj hf; subst e9
    exact aRetI hC hT hF rfl rfl
  · have hf := aIfF hf hc11
    refine aRun_ok hC hT 4 (cf' := (75, [(6, .int v3), (4, .int ((-1) : Int32)), (0, .ref 42), (2, .int v2), (3, .int v3), (5, .int v5)], [], LAY, S)) (by rfl) ?_
    refine aLocs [2, 3, 4, 1, 5, 0] (lv' := [(0, .ref 42), (2, .int v2), (3, .int v3), (4, .int ((-1) : Int32)), (5, .int v5), (6, .int v3)]) rfl ?_
    exact X11_match_42_l75_ok hC hF hrec63 N v2 v3 ((-1) : Int32) v5 v3 S hf
def X11_match_42_l63 (N : Nat) : Nat → Int32 → Int32 → Int32 → Int32 → aSt → Option (Int32 × aSt)
  | 0 => fun _ _ _ _ _ => none
  | n + 1 => X11_match_42_b63 N (X11_match_42_l63 N n)
theorem X11_match_42_l63_ok {C : aC} {N : Nat} (hC : aCx C M_X11_match) {r : Int32 × aSt} (hF : aFin C (some (.int r.1)) LAY r.2 0 0) : ∀ (n : Nat) (v2 : Int32) (v3 : Int32) (v4 : Int32) (v5 : Int32) (S : aSt), X11_match_42_l63 N n v2 v3 v4 v5 S = (some r) → aX C M_X11_match 0 0 (63, [(0, .ref 42), (2, .int v2), (3, .int v3), (4, .int v4), (5, .int v5)], [], LAY, S)
  | 0, _, _, _, _, _,  h => nomatch (show (none : Option (Int32 × aSt)) = some _ from h)
  | n + 1, v2, v3, v4, v5, S,  h => X11_match_42_b63_ok hC hF (fun v2 v3 v4 v5 S h => X11_match_42_l63_ok hC hF n v2 v3 v4 v5 S h) v2 v3 v4 v5 S h
def X11_match_42 (N : Nat) (a1 : Int32) (a2 : Int32) (S : aSt) : Option (Int32 × aSt) := (aLet (X11_in (a1.toInt64) (0 : Int64) (12 : Int64)) (fun w1 => (if w1 = (0 : Int32) then some ((((-3) : Int32), S)) else (if (S.1 42 5) < a1 then some ((((-3) : Int32), S)) else (aLet (X11_in (a2.toInt64) ((-1) : Int64) ((a1 - (1 : Int32)).toInt64)) (fun w5 => (if w5 = (0 : Int32) then some ((((-3) : Int32), S)) else (Option.bind (X11_layRest_42 N a1 S) (fun w8 => (if a2 = ((-1) : Int32) then (if aIx (0 : Int32) 169 = true then some ((((w8.2.2 58) (0 : Int32).toNatClampNeg), w8)) else none) else (X11_match_42_l63 N N a2 (0 : Int32) ((-1) : Int32) (0 : Int32) w8)))))))))))
set_option maxHeartbeats 4000000 in
set_option maxRecDepth 100000 in
theorem J_X11_match_42 (l : Launch) (g : aWg) (N : Nat) (a1 : Int32) (a2 : Int32) (S : aSt) {r : Int32 × aSt} (hf : X11_match_42 N a1 a2 S = (some r)) : aJ l g yX11_match M_X11_match [.ref 42, .int a1, .int a2] LAY S (some (.int r.1)) LAY r.2 0 0 := by
  refine aJ_of (by decide +kernel) rfl (Nat.le_of_ble_eq_true rfl) (fun h => nomatch h) ?_
  intro C hg hl hC hz hF
  subst hg; subst hl
  have hT := ok_X11_match
  unfold X11_match_42 at hf
  show aX C M_X11_match 0 0 (0, [(0, .ref 42), (1, .int a1), (2, .int a2)], [], LAY, S)
  refine aRun_ok hC hT 4 (cf' := (6, [(0, .ref 42), (1, .int a1), (2, .int a2)], [.long (12 : Int64), .long (0 : Int64), .long (a1.toInt64)], LAY, S)) (by rfl) ?_
  obtain ⟨w1, ew2, hf⟩ := aLetE hf
  refine aCallS (As := [.long (a1.toInt64), .long (0 : Int64), .long (12 : Int64)]) (rest := []) hC hT rfl k_X11_match_70.1 _ k_X11_match_70.2 (by rfl) (Nat.le_of_ble_eq_true rfl) (by decide) (J_X11_in C.2.2.1 C.1 (a1.toInt64) (0 : Int64) (12 : Int64) S ew2) ?_
  refine aIf_eq hC hT (tgt := 35) rfl (by decide) (fun hc3 => ?_) (fun hc3 => ?_)
  · have hf := aIfT hf hc3
    refine aRun_ok hC hT 1 (cf' := (37, [(0, .ref 42), (1, .int a1), (2, .int a2)], [.int ((-3) : Int32)], LAY, S)) (by rfl) ?_
    have e9 := Option.some.inj hf; subst e9
    exact aRetI hC hT hF rfl rfl
  · have hf := aIfF hf hc3
    refine aRun_ok hC hT 3 (cf' := (17, [(0, .ref 42), (1, .int a1), (2, .int a2)], [.int (S.1 42 5), .int a1], LAY, S)) (by rfl) ?_
    refine aCmp_gt hC hT (tgt := 35) rfl (by decide) (fun hc4 => ?_) (fun hc4 => ?_)
    · have hf := aIfT hf hc4
      refine aRun_ok hC hT 1 (cf' := (37, [(0, .ref 42), (1, .int a1), (2, .int a2)], [.int ((-3) : Int32)], LAY, S)) (by rfl) ?_
      have e9 := Option.some.inj hf; subst e9
      exact aRetI hC hT hF rfl rfl
    · have hf := aIfF hf hc4
      refine aRun_ok hC hT 7 (cf' := (29, [(0, .ref 42), (1, .int a1), (2, .int a2)], [.long ((a1 - (1 : Int32)).toInt64), .long ((-1) : Int64), .long (a2.toInt64)], LAY, S)) (by rfl) ?_
      obtain ⟨w5, ew6, hf⟩ := aLetE hf
      refine aCallS (As := [.long (a2.toInt64), .long ((-1) : Int64), .long ((a1 - (1 : Int32)).toInt64)]) (rest := []) hC hT rfl k_X11_match_70.1 _ k_X11_match_70.2 (by rfl) (Nat.le_of_ble_eq_true rfl) (by decide) (J_X11_in C.2.2.1 C.1 (a2.toInt64) ((-1) : Int64) ((a1 - (1 : Int32)).toInt64) S ew6) ?_
      refine aIf_ne hC hT (tgt := 38) rfl (by decide) (fun hc7 => ?_) (fun hc7 => ?_)
      · have hf := aIfF hf hc7
        refine aRun_ok hC hT 2 (cf' := (40, [(0, .ref 42), (1, .int a1), (2, .int a2)], [.int a1, .ref 42], LAY, S)) (by rfl) ?_
        obtain ⟨w8, ew9, hf⟩ := aBnE hf
        refine aCallV (b := 42) (As := [.int a1]) (rest := []) hC hT rfl k_X11_match_303.1 _ _ k_X11_match_303.2 (by decide) (by rfl) (by rfl) (by rfl) (Nat.le_of_ble_eq_true rfl) (by decide) (J_X11_layRest_42 C.2.2.1 C.1 N a1 S ew9) ?_
        refine aRun_ok hC hT 2 (cf' := (45, [(0, .ref 42), (1, .int a1), (2, .int a2)], [.int ((-1) : Int32), .int a2], LAY, w8)) (by rfl) ?_
        refine aCmp_ne hC hT (tgt := 55) rfl (by decide) (fun hc10 => ?_) (fun hc10 => ?_)
        · have hf := aIfF hf hc10
          refine aRun_ok hC hT 6 (cf' := (63, [(5, .int (0 : Int32)), (4, .int ((-1) : Int32)), (3, .int (0 : Int32)), (0, .ref 42), (1, .int a1), (2, .int a2)], [], LAY, w8)) (by rfl) ?_
          refine aLocs [3, 5, 2, 1, 0] (lv' := [(0, .ref 42), (2, .int a2), (3, .int (0 : Int32)), (4, .int ((-1) : Int32)), (5, .int (0 : Int32))]) rfl ?_
          exact X11_match_42_l63_ok hC hF N a2 (0 : Int32) ((-1) : Int32) (0 : Int32) w8 hf
        · have hf := aIfT hf hc10
          refine aRun_ok hC hT 3 (cf' := (53, [(0, .ref 42), (1, .int a1), (2, .int a2)], [.int (0 : Int32), .ref 58], LAY, w8)) (by rfl) ?_
          obtain ⟨hin19, hf⟩ := aGdE hf
          refine aIald hC hT rfl (by decide) (by rfl) hin19 ?_
          have e9 := Option.some.inj hf; subst e9
          exact aRetI hC hT hF rfl rfl
      · have hf := aIfT hf hc7
        refine aRun_ok hC hT 1 (cf' := (37, [(0, .ref 42), (1, .int a1), (2, .int a2)], [.int ((-3) : Int32)], LAY, S)) (by rfl) ?_
        have e9 := Option.some.inj hf; subst e9
        exact aRetI hC hT hF rfl rfl
def X11_mean_42_b107 (N : Nat) (v2 : Int32) (v3 : Int64) (v5 : Int64) (S : aSt) : Option (Int32 × aSt) := (Option.bind (X11_lowest N v3 v5 v2) (fun w8 => some (((w8.toInt32), S))))
set_option maxHeartbeats 4000000 in
set_option maxRecDepth 100000 in
theorem X11_mean_42_b107_ok {C : aC} {N : Nat} (hC : aCx C M_X11_mean) {r : Int32 × aSt} (hF : aFin C (some (.int r.1)) LAY r.2 0 0) (v2 : Int32) (v3 : Int64) (v5 : Int64) (S : aSt) (hf : X11_mean_42_b107 N v2 v3 v5 S = (some r)) : aX C M_X11_mean 0 0 (107, [(2, .int v2), (3, .long v3), (5, .long v5)], [], LAY, S) := by
  have hT := ok_X11_mean
  unfold X11_mean_42_b107 at hf
  refine aRun_ok hC hT 3 (cf' := (111, [(2, .int v2), (3, .long v3), (5, .long v5)], [.int v2, .long v5, .long v3], LAY, S)) (by rfl) ?_
  obtain ⟨w8, ew9, hf⟩ := aBnE hf
  refine aCallS (As := [.long v3, .long v5, .int v2]) (rest := []) hC hT rfl k_X11_mean_272.1 _ k_X11_mean_272.2 (by rfl) (Nat.le_of_ble_eq_true rfl) (by decide) (J_X11_lowest C.2.2.1 C.1 N v3 v5 v2 S ew9) ?_
  refine aRun_ok hC hT 1 (cf' := (115, [(2, .int v2), (3, .long v3), (5, .long v5)], [.int (w8.toInt32)], LAY, S)) (by rfl) ?_
  have e9 := Option.some.inj hf; subst e9
  exact aRetI hC hT hF rfl rfl
def X11_mean_42_b36 (N : Nat) (rec36 : Int32 → Int64 → Int64 → Int32 → Int32 → aSt → Option (Int32 × aSt)) (v2 : Int32) (v3 : Int64) (v5 : Int64) (v7 : Int32) (v8 : Int32) (S : aSt) : Option (Int32 × aSt) := (if (S.1 42 32) ≤ v8 then (X11_mean_42_b107 N v2 v3 v5 S) else (if aIx v8 30 = true then (if aIx (((5 : Int32) * ((S.2.2 57) v8.toNatClampNeg)) + (1 : Int32)) 150 = true then (Option.bind (X11_figures N ((S.2.2 45) (((5 : Int32) * ((S.2.2 57) v8.toNatClampNeg)) + (1 : Int32)).toNatClampNeg)) (fun w12 => (if aIx ((S.2.2 57) v8.toNatClampNeg) 30 = true then (if aIx ((S.2.2 57) v8.toNatClampNeg) 30 = true then (rec36 v2 (v3 + ((((S.2.2 56) ((S.2.2 57) v8.toNatClampNeg).toNatClampNeg).toInt64) * ((v7 + w12).toInt64))) (v5 + (((S.2.2 56) ((S.2.2 57) v8.toNatClampNeg).toNatClampNeg).toInt64)) (v7 + w12) (v8 + (1 : Int32)) S) else none) else none))) else none) else none))
set_option maxHeartbeats 4000000 in
set_option maxRecDepth 100000 in
theorem X11_mean_42_b36_ok {C : aC} {N : Nat} {rec36 : Int32 → Int64 → Int64 → Int32 → Int32 → aSt → Option (Int32 × aSt)} (hC : aCx C M_X11_mean) {r : Int32 × aSt} (hF : aFin C (some (.int r.1)) LAY r.2 0 0) (hrec36 : ∀ (v2 : Int32) (v3 : Int64) (v5 : Int64) (v7 : Int32) (v8 : Int32) (S : aSt), rec36 v2 v3 v5 v7 v8 S = (some r) → aX C M_X11_mean 0 0 (36, [(0, .ref 42), (2, .int v2), (3, .long v3), (5, .long v5), (7, .int v7), (8, .int v8)], [], LAY, S)) (v2 : Int32) (v3 : Int64) (v5 : Int64) (v7 : Int32) (v8 : Int32) (S : aSt) (hf : X11_mean_42_b36 N rec36 v2 v3 v5 v7 v8 S = (some r)) : aX C M_X11_mean 0 0 (36, [(0, .ref 42), (2, .int v2), (3, .long v3), (5, .long v5), (7, .int v7), (8, .int v8)], [], LAY, S) := by
  have hT := ok_X11_mean
  unfold X11_mean_42_b36 at hf
  refine aRun_ok hC hT 3 (cf' := (42, [(0, .ref 42), (2, .int v2), (3, .long v3), (5, .long v5), (7, .int v7), (8, .int v8)], [.int (S.1 42 32), .int v8], LAY, S)) (by rfl) ?_
  refine aCmp_ge hC hT (tgt := 107) rfl (by decide) (fun hc7 => ?_) (fun hc7 => ?_)
  · have hf := aIfT hf hc7
    refine aLocs [1, 2, 3] (lv' := [(2, .int v2), (3, .long v3), (5, .long v5)]) rfl ?_
    exact X11_mean_42_b107_ok hC hF v2 v3 v5 S hf
  · have hf := aIfF hf hc7
    refine aRun_ok hC hT 3 (cf' := (51, [(0, .ref 42), (2, .int v2), (3, .long v3), (5, .long v5), (7, .int v7), (8, .int v8)], [.int v8, .ref 57], LAY, S)) (by rfl) ?_
    obtain ⟨hin10, hf⟩ := aGdE hf
    refine aIald hC hT rfl (by decide) (by rfl) hin10 ?_
    refine aRun_ok hC hT 9 (cf' := (66, [(9, .int ((S.2.2 57) v8.toNatClampNeg)), (0, .ref 42), (2, .int v2), (3, .long v3), (5, .long v5), (7, .int v7), (8, .int v8)], [.int (((5 : Int32) * ((S.2.2 57) v8.toNatClampNeg)) + (1 : Int32)), .ref 45, .int v7], LAY, S)) (by rfl) ?_
    obtain ⟨hin11, hf⟩ := aGdE hf
    refine aIald hC hT rfl (by decide) (by rfl) hin11 ?_
    obtain ⟨w12, ew13, hf⟩ := aBnE hf
    refine aCallS (As := [.int ((S.2.2 45) (((5 : Int32) * ((S.2.2 57) v8.toNatClampNeg)) + (1 : Int32)).toNatClampNeg)]) (rest := [.int v7]) hC hT rfl k_X11_mean_182.1 _ k_X11_mean_182.2 (by rfl) (Nat.le_of_ble_eq_true rfl) (by decide) (J_X11_figures C.2.2.1 C.1 N ((S.2.2 45) (((5 : Int32) * ((S.2.2 57) v8.toNatClampNeg)) + (1 : Int32)).toNatClampNeg) S ew13) ?_
    refine aRun_ok hC hT 6 (cf' := (80, [(7, .int (v7 + w12)), (9, .int ((S.2.2 57) v8.toNatClampNeg)), (0, .ref 42), (2, .int v2), (3, .long v3), (5, .long v5), (8, .int v8)], [.int ((S.2.2 57) v8.toNatClampNeg), .ref 56, .long v3], LAY, S)) (by rfl) ?_
    obtain ⟨hin14, hf⟩ := aGdE hf
    refine aIald hC hT rfl (by decide) (by rfl) hin14 ?_
    refine aRun_ok hC hT 10 (cf' := (96, [(3, .long (v3 + ((((S.2.2 56) ((S.2.2 57) v8.toNatClampNeg).toNatClampNeg).toInt64) * ((v7 + w12).toInt64)))), (7, .int (v7 + w12)), (9, .int ((S.2.2 57) v8.toNatClampNeg)), (0, .ref 42), (2, .int v2), (5, .long v5), (8, .int v8)], [.int ((S.2.2 57) v8.toNatClampNeg), .ref 56, .long v5], LAY, S)) (by rfl) ?_
    obtain ⟨hin15, hf⟩ := aGdE hf
    refine aIald hC hT rfl (by decide) (by rfl) hin15 ?_
    refine aRun_ok hC hT 5 (cf' := (36, [(8, .int (v8 + (1 : Int32))), (5, .long (v5 + (((S.2.2 56) ((S.2.2 57) v8.toNatClampNeg).toNatClampNeg).toInt64))), (3, .long (v3 + ((((S.2.2 56) ((S.2.2 57) v8.toNatClampNeg).toNatClampNeg).toInt64) * ((v7 + w12).toInt64)))), (7, .int (v7 + w12)), (9, .int ((S.2.2 57) v8.toNatClampNeg)), (0, .ref 42), (2, .int v2)], [], LAY, S)) (by rfl) ?_
    refine aLocs [5, 6, 2, 1, 3, 0] (lv' := [(0, .ref 42), (2, .int v2), (3, .long (v3 + ((((S.2.2 56) ((S.2.2 57) v8.toNatClampNeg).toNatClampNeg).toInt64) * ((v7 + w12).toInt64)))), (5, .long (v5 + (((S.2.2 56) ((S.2.2 57) v8.toNatClampNeg).toNatClampNeg).toInt64))), (7, .int (v7 + w12)), (8, .int (v8 + (1 : Int32)))]) rfl ?_
    exact hrec36 v2 (v3 + ((((S.2.2 56) ((S.2.2 57) v8.toNatClampNeg).toNatClampNeg).toInt64) * ((v7 + w12).toInt64))) (v5 + (((S.2.2 56) ((S.2.2 57) v8.toNatClampNeg).toNatClampNeg).toInt64)) (v7 + w12) (v8 + (1 : Int32)) S hf
def X11_mean_42_l36 (N : Nat) : Nat → Int32 → Int64 → Int64 → Int32 → Int32 → aSt → Option (Int32 × aSt)
  | 0 => fun _ _ _ _ _ _ => none
  | n + 1 => X11_mean_42_b36 N (X11_mean_42_l36 N n)
theorem X11_mean_42_l36_ok {C : aC} {N : Nat} (hC : aCx C M_X11_mean) {r : Int32 × aSt} (hF : aFin C (some (.int r.1)) LAY r.2 0 0) : ∀ (n : Nat) (v2 : Int32) (v3 : Int64) (v5 : Int64) (v7 : Int32) (v8 : Int32) (S : aSt), X11_mean_42_l36 N n v2 v3 v5 v7 v8 S = (some r) → aX C M_X11_mean 0 0 (36, [(0, .ref 42), (2, .int v2), (3, .long v3), (5, .long v5), (7, .int v7), (8, .int v8)], [], LAY, S)
  | 0, _, _, _, _, _, _,  h => nomatch (show (none : Option (Int32 × aSt)) = some _ from h)
  | n + 1, v2, v3, v5, v7, v8, S,  h => X11_mean_42_b36_ok hC hF (fun v2 v3 v5 v7 v8 S h => X11_mean_42_l36_ok hC hF n v2 v3 v5 v7 v8 S h) v2 v3 v5 v7 v8 S h
def X11_mean_42 (N : Nat) (a1 : Int32) (a2 : Int32) (S : aSt) : Option (Int32 × aSt) := (Option.bind (X11_isPart N a2) (fun w1 => (if w1 = (0 : Int32) then some ((((-3) : Int32), S)) else (Option.bind (X11_layLooks_42 N a1 S) (fun w4 => (if (w4.1 42 32) = (0 : Int32) then some ((((-4) : Int32), w4)) else (X11_mean_42_l36 N N a2 (0 : Int64) (0 : Int64) (0 : Int32) (0 : Int32) w4)))))))
set_option maxHeartbeats 4000000 in
set_option maxRecDepth 100000 in
theorem J_X11_mean_42 (l : Launch) (g : aWg) (N : Nat) (a1 : Int32) (a2 : Int32) (S : aSt) {r : Int32 × aSt} (hf : X11_mean_42 N a1 a2 S = (some r)) : aJ l g yX11_mean M_X11_mean [.ref 42, .int a1, .int a2] LAY S (some (.int r.1)) LAY r.2 0 0 := by
  refine aJ_of (by decide +kernel) rfl (Nat.le_of_ble_eq_true rfl) (fun h => nomatch h) ?_
  intro C hg hl hC hz hF
  subst hg; subst hl
  have hT := ok_X11_mean
  unfold X11_mean_42 at hf
  show aX C M_X11_mean 0 0 (0, [(0, .ref 42), (1, .int a1), (2, .int a2)], [], LAY, S)
  refine aRun_ok hC hT 1 (cf' := (1, [(0, .ref 42), (1, .int a1), (2, .int a2)], [.int a2], LAY, S)) (by rfl) ?_
  obtain ⟨w1, ew2, hf⟩ := aBnE hf
  refine aCallS (As := [.int a2]) (rest := []) hC hT rfl k_X11_mean_263.1 _ k_X11_mean_263.2 (by rfl) (Nat.le_of_ble_eq_true rfl) (by decide) (J_X11_isPart C.2.2.1 C.1 N a2 S ew2) ?_
  refine aIf_ne hC hT (tgt := 10) rfl (by decide) (fun hc3 => ?_) (fun hc3 => ?_)
  · have hf := aIfF hf hc3
    refine aRun_ok hC hT 2 (cf' := (12, [(0, .ref 42), (1, .int a1), (2, .int a2)], [.int a1, .ref 42], LAY, S)) (by rfl) ?_
    obtain ⟨w4, ew5, hf⟩ := aBnE hf
    refine aCallV (b := 42) (As := [.int a1]) (rest := []) hC hT rfl k_X11_mean_282.1 _ _ k_X11_mean_282.2 (by decide) (by rfl) (by rfl) (by rfl) (Nat.le_of_ble_eq_true rfl) (by decide) (J_X11_layLooks_42 C.2.2.1 C.1 N a1 S ew5) ?_
    refine aRun_ok hC hT 2 (cf' := (19, [(0, .ref 42), (1, .int a1), (2, .int a2)], [.int (w4.1 42 32)], LAY, w4)) (by rfl) ?_
    refine aIf_ne hC hT (tgt := 25) rfl (by decide) (fun hc6 => ?_) (fun hc6 => ?_)
    · have hf := aIfF hf hc6
      refine aRun_ok hC hT 8 (cf' := (36, [(8, .int (0 : Int32)), (7, .int (0 : Int32)), (5, .long (0 : Int64)), (3, .long (0 : Int64)), (0, .ref 42), (1, .int a1), (2, .int a2)], [], LAY, w4)) (by rfl) ?_
      refine aLocs [4, 6, 3, 2, 1, 0] (lv' := [(0, .ref 42), (2, .int a2), (3, .long (0 : Int64)), (5, .long (0 : Int64)), (7, .int (0 : Int32)), (8, .int (0 : Int32))]) rfl ?_
      exact X11_mean_42_l36_ok hC hF N a2 (0 : Int64) (0 : Int64) (0 : Int32) (0 : Int32) w4 hf
    · have hf := aIfT hf hc6
      refine aRun_ok hC hT 1 (cf' := (24, [(0, .ref 42), (1, .int a1), (2, .int a2)], [.int ((-4) : Int32)], LAY, w4)) (by rfl) ?_
      have e9 := Option.some.inj hf; subst e9
      exact aRetI hC hT hF rfl rfl
  · have hf := aIfT hf hc3
    refine aRun_ok hC hT 1 (cf' := (9, [(0, .ref 42), (1, .int a1), (2, .int a2)], [.int ((-3) : Int32)], LAY, S)) (by rfl) ?_
    have e9 := Option.some.inj hf; subst e9
    exact aRetI hC hT hF rfl rfl
def X11_mend_42 (N : Nat) (a1 : Int32) (a2 : Int32) (a3 : Int32) (S : aSt) : Option (Int32 × aSt) := (Option.bind (X11_isEntry_42 N a1 S) (fun w1 => (if w1 = (0 : Int32) then some ((((-2) : Int32), S)) else (aLet (X11_in (a2.toInt64) (0 : Int64) (1 : Int64)) (fun w4 => (if w4 = (0 : Int32) then some ((((-3) : Int32), S)) else (aLet (X11_in (a3.toInt64) (1 : Int64) (999999 : Int64)) (fun w7 => (if w7 = (0 : Int32) then some ((((-3) : Int32), S)) else (if aIx ((5 : Int32) * a1) 150 = true then (if aIx (((5 : Int32) * a1) + (1 : Int32)) 150 = true then (Option.bind (X11_outOf_42 N ((-1) : Int32) (aA (aA S 45 (upd (S.2.2 45) ((5 : Int32) * a1).toNatClampNeg a2)) 45 (upd (upd (S.2.2 45) ((5 : Int32) * a1).toNatClampNeg a2) (((5 : Int32) * a1) + (1 : Int32)).toNatClampNeg a3))) (fun w12 => some (((w12 + (50000000 : Int32)), (aA (aA S 45 (upd (S.2.2 45) ((5 : Int32) * a1).toNatClampNeg a2)) 45 (upd (upd (S.2.2 45) ((5 : Int32) * a1).toNatClampNeg a2) (((5 : Int32) * a1) + (1 : Int32)).toNatClampNeg a3)))))) else none) else none))))))))))
set_option maxHeartbeats 4000000 in
set_option maxRecDepth 100000 in
theorem J_X11_mend_42 (l : Launch) (g : aWg) (N : Nat) (a1 : Int32) (a2 : Int32) (a3 : Int32) (S : aSt) {r : Int32 × aSt} (hf : X11_mend_42 N a1 a2 a3 S = (some r)) : aJ l g yX11_mend M_X11_mend [.ref 42, .int a1, .int a2, .int a3] LAY S (some (.int r.1)) LAY r.2 0 0 := by
  refine aJ_of (by decide +kernel) rfl (Nat.le_of_ble_eq_true rfl) (fun h => nomatch h) ?_
  intro C hg hl hC hz hF
  subst hg; subst hl
  have hT := ok_X11_mend
  unfold X11_mend_42 at hf
  show aX C M_X11_mend 0 0 (0, [(0, .ref 42), (1, .int a1), (2, .int a2), (3, .int a3)], [], LAY, S)
  refine aRun_ok hC hT 2 (cf' := (2, [(0, .ref 42), (1, .int a1), (2, .int a2), (3, .int a3)], [.int a1, .ref 42], LAY, S)) (by rfl) ?_
  obtain ⟨w1, ew2, hf⟩ := aBnE hf
  refine aCallV (b := 42) (As := [.int a1]) (rest := []) hC hT rfl k_X11_mend_146.1 _ _ k_X11_mend_146.2 (by decide) (by rfl) (by rfl) (by rfl) (Nat.le_of_ble_eq_true rfl) (by decide) (J_X11_isEntry_42 C.2.2.1 C.1 N a1 S ew2) ?_
  refine aIf_ne hC hT (tgt := 11) rfl (by decide) (fun hc3 => ?_) (fun hc3 => ?_)
  · have hf := aIfF hf hc3
    refine aRun_ok hC hT 4 (cf' := (15, [(0, .ref 42), (1, .int a1), (2, .int a2), (3, .int a3)], [.long (1 : Int64), .long (0 : Int64), .long (a2.toInt64)], LAY, S)) (by rfl) ?_
    obtain ⟨w4, ew5, hf⟩ := aLetE hf
    refine aCallS (As := [.long (a2.toInt64), .long (0 : Int64), .long (1 : Int64)]) (rest := []) hC hT rfl k_X11_mend_70.1 _ k_X11_mend_70.2 (by rfl) (Nat.le_of_ble_eq_true rfl) (by decide) (J_X11_in C.2.2.1 C.1 (a2.toInt64) (0 : Int64) (1 : Int64) S ew5) ?_
    refine aIf_eq hC hT (tgt := 33) rfl (by decide) (fun hc6 => ?_) (fun hc6 => ?_)
    · have hf := aIfT hf hc6
      refine aRun_ok hC hT 1 (cf' := (35, [(0, .ref 42), (1, .int a1), (2, .int a2), (3, .int a3)], [.int ((-3) : Int32)], LAY, S)) (by rfl) ?_
      have e9 := Option.some.inj hf; subst e9
      exact aRetI hC hT hF rfl rfl
    · have hf := aIfF hf hc6
      refine aRun_ok hC hT 4 (cf' := (27, [(0, .ref 42), (1, .int a1), (2, .int a2), (3, .int a3)], [.long (999999 : Int64), .long (1 : Int64), .long (a3.toInt64)], LAY, S)) (by rfl) ?_
      obtain ⟨w7, ew8, hf⟩ := aLetE hf
      refine aCallS (As := [.long (a3.toInt64), .long (1 : Int64), .long (999999 : Int64)]) (rest := []) hC hT rfl k_X11_mend_70.1 _ k_X11_mend_70.2 (by rfl) (Nat.le_of_ble_eq_true rfl) (by decide) (J_X11_in C.2.2.1 C.1 (a3.toInt64) (1 : Int64) (999999 : Int64) S ew8) ?_
      refine aIf_ne hC hT (tgt := 36) rfl (by decide) (fun hc9 => ?_) (fun hc9 => ?_)
      · have hf := aIfF hf hc9
        refine aRun_ok hC hT 6 (cf' := (44, [(0, .ref 42), (1, .int a1), (2, .int a2), (3, .int a3)], [.int a2, .int ((5 : Int32) * a1), .ref 45], LAY, S)) (by rfl) ?_
        obtain ⟨hin10, hf⟩ := aGdE hf
        refine aIast hC hT rfl (by decide) (by rfl) hin10 ?_
        refine aRun_ok hC hT 8 (cf' := (55, [(0, .ref 42), (1, .int a1), (2, .int a2), (3, .int a3)], [.int a3, .int (((5 : Int32) * a1) + (1 : Int32)), .ref 45], LAY, (aA S 45 (upd (S.2.2 45) ((5 : Int32) * a1).toNatClampNeg a2)))) (by rfl) ?_
        obtain ⟨hin11, hf⟩ := aGdE hf
        refine aIast hC hT rfl (by decide) (by rfl) hin11 ?_
        refine aRun_ok hC hT 2 (cf' := (58, [(0, .ref 42), (1, .int a1), (2, .int a2), (3, .int a3)], [.int ((-1) : Int32), .ref 42], LAY, (aA (aA S 45 (upd (S.2.2 45) ((5 : Int32) * a1).toNatClampNeg a2)) 45 (upd (upd (S.2.2 45) ((5 : Int32) * a1).toNatClampNeg a2) (((5 : Int32) * a1) + (1 : Int32)).toNatClampNeg a3)))) (by rfl) ?_
        obtain ⟨w12, ew13, hf⟩ := aBnE hf
        refine aCallV (b := 42) (As := [.int ((-1) : Int32)]) (rest := []) hC hT rfl k_X11_mend_155.1 _ _ k_X11_mend_155.2 (by decide) (by rfl) (by rfl) (by rfl) (Nat.le_of_ble_eq_true rfl) (by decide) (J_X11_outOf_42 C.2.2.1 C.1 N ((-1) : Int32) (aA (aA S 45 (upd (S.2.2 45) ((5 : Int32) * a1).toNatClampNeg a2)) 45 (upd (upd (S.2.2 45) ((5 : Int32) * a1).toNatClampNeg a2) (((5 : Int32) * a1) + (1 : Int32)).toNatClampNeg a3)) ew13) ?_
        refine aRun_ok hC hT 2 (cf' := (64, [(0, .ref 42), (1, .int a1), (2, .int a2), (3, .int a3)], [.int (w12 + (50000000 : Int32))], LAY, (aA (aA S 45 (upd (S.2.2 45) ((5 : Int32) * a1).toNatClampNeg a2)) 45 (upd (upd (S.2.2 45) ((5 : Int32) * a1).toNatClampNeg a2) (((5 : Int32) * a1) + (1 : Int32)).toNatClampNeg a3)))) (by rfl) ?_
        have e9 := Option.some.inj hf; subst e9
        exact aRetI hC hT hF rfl rfl
      · have hf := aIfT hf hc9
        refine aRun_ok hC hT 1 (cf' := (35, [(0, .ref 42), (1, .int a1), (2, .int a2), (3, .int a3)], [.int ((-3) : Int32)], LAY, S)) (by rfl) ?_
        have e9 := Option.some.inj hf; subst e9
        exact aRetI hC hT hF rfl rfl
  · have hf := aIfT hf hc3
    refine aRun_ok hC hT 1 (cf' := (10, [(0, .ref 42), (1, .int a1), (2, .int a2), (3, .int a3)], [.int ((-2) : Int32)], LAY, S)) (by rfl) ?_
    have e9 := Option.some.inj hf; subst e9
    exact aRetI hC hT hF rfl rfl
def X11_odds_42 (N : Nat) (a1 : Int32) (a2 : Int32) (S : aSt) : Option (Int32) := (Option.bind (X11_isHand N a1) (fun w1 => (if w1 = (0 : Int32) then some (((-2) : Int32)) else (aLet (X11_in (a2.toInt64) (0 : Int64) (4 : Int64)) (fun w4 => (if w4 = (0 : Int32) then some (((-2) : Int32)) else (if aIx (((5 : Int32) * a1) + a2) 20 = true then some (((S.2.2 47) (((5 : Int32) * a1) + a2).toNatClampNeg)) else none)))))))
set_option maxHeartbeats 4000000 in
set_option maxRecDepth 100000 in
theorem J_X11_odds_42 (l : Launch) (g : aWg) (N : Nat) (a1 : Int32) (a2 : Int32) (S : aSt) {r : Int32} (hf : X11_odds_42 N a1 a2 S = (some r)) : aJ l g yX11_odds M_X11_odds [.ref 42, .int a1, .int a2] LAY S (some (.int r)) LAY S 0 0 := by
  refine aJ_of (by decide +kernel) rfl (Nat.le_of_ble_eq_true rfl) (fun h => nomatch h) ?_
  intro C hg hl hC hz hF
  subst hg; subst hl
  have hT := ok_X11_odds
  unfold X11_odds_42 at hf
  show aX C M_X11_odds 0 0 (0, [(0, .ref 42), (1, .int a1), (2, .int a2)], [], LAY, S)
  refine aRun_ok hC hT 1 (cf' := (1, [(0, .ref 42), (1, .int a1), (2, .int a2)], [.int a1], LAY, S)) (by rfl) ?_
  obtain ⟨w1, ew2, hf⟩ := aBnE hf
  refine aCallS (As := [.int a1]) (rest := []) hC hT rfl k_X11_odds_167.1 _ k_X11_odds_167.2 (by rfl) (Nat.le_of_ble_eq_true rfl) (by decide) (J_X11_isHand C.2.2.1 C.1 N a1 S ew2) ?_
  refine aIf_eq hC hT (tgt := 32) rfl (by decide) (fun hc3 => ?_) (fun hc3 => ?_)
  · have hf := aIfT hf hc3
    refine aRun_ok hC hT 1 (cf' := (34, [(0, .ref 42), (1, .int a1), (2, .int a2)], [.int ((-2) : Int32)], LAY, S)) (by rfl) ?_
    have e9 := Option.some.inj hf; subst e9
    exact aRetI hC hT hF rfl rfl
  · have hf := aIfF hf hc3
    refine aRun_ok hC hT 4 (cf' := (13, [(0, .ref 42), (1, .int a1), (2, .int a2)], [.long (4 : Int64), .long (0 : Int64), .long (a2.toInt64)], LAY, S)) (by rfl) ?_
    obtain ⟨w4, ew5, hf⟩ := aLetE hf
    refine aCallS (As := [.long (a2.toInt64), .long (0 : Int64), .long (4 : Int64)]) (rest := []) hC hT rfl k_X11_odds_70.1 _ k_X11_odds_70.2 (by rfl) (Nat.le_of_ble_eq_true rfl) (by decide) (J_X11_in C.2.2.1 C.1 (a2.toInt64) (0 : Int64) (4 : Int64) S ew5) ?_
    refine aIf_eq hC hT (tgt := 32) rfl (by decide) (fun hc6 => ?_) (fun hc6 => ?_)
    · have hf := aIfT hf hc6
      refine aRun_ok hC hT 1 (cf' := (34, [(0, .ref 42), (1, .int a1), (2, .int a2)], [.int ((-2) : Int32)], LAY, S)) (by rfl) ?_
      have e9 := Option.some.inj hf; subst e9
      exact aRetI hC hT hF rfl rfl
    · have hf := aIfF hf hc6
      refine aRun_ok hC hT 7 (cf' := (28, [(0, .ref 42), (1, .int a1), (2, .int a2)], [.int (((5 : Int32) * a1) + a2), .ref 47], LAY, S)) (by rfl) ?_
      obtain ⟨hin7, hf⟩ := aGdE hf
      refine aIald hC hT rfl (by decide) (by rfl) hin7 ?_
      refine aRun_ok hC hT 1 (cf' := (34, [(0, .ref 42), (1, .int a1), (2, .int a2)], [.int ((S.2.2 47) (((5 : Int32) * a1) + a2).toNatClampNeg)], LAY, S)) (by rfl) ?_
      have e9 := Option.some.inj hf; subst e9
      exact aRetI hC hT hF rfl rfl
def X11_ofKind_42_b53 (N : Nat) (rec24 : Int32 → Int32 → Int32 → aSt → Option (Int32 × aSt)) (v1 : Int32) (v3 : Int32) (s0 : Int32) (s1 : Int32) (S : aSt) : Option (Int32 × aSt) := (rec24 v1 (s1 + s0) (v3 + (1 : Int32)) S)
set_option maxHeartbeats 4000000 in
set_option maxRecDepth 100000 in
theorem X11_ofKind_42_b53_ok {C : aC} {N : Nat} {rec24 : Int32 → Int32 → Int32 → aSt → Option (Int32 × aSt)} (hC : aCx C M_X11_ofKind) {r : Int32 × aSt} (hF : aFin C (some (.int r.1)) LAY r.2 0 0) (hrec24 : ∀ (v1 : Int32) (v2 : Int32) (v3 : Int32) (S : aSt), rec24 v1 v2 v3 S = (some r) → aX C M_X11_ofKind 0 0 (24, [(0, .ref 42), (1, .int v1), (2, .int v2), (3, .int v3)], [], LAY, S)) (v1 : Int32) (v3 : Int32) (s0 : Int32) (s1 : Int32) (S : aSt) (hf : X11_ofKind_42_b53 N rec24 v1 v3 s0 s1 S = (some r)) : aX C M_X11_ofKind 0 0 (53, [(0, .ref 42), (1, .int v1), (3, .int v3)], [.int s0, .int s1], LAY, S) := by
  have hT := ok_X11_ofKind
  unfold X11_ofKind_42_b53 at hf
  refine aRun_ok hC hT 4 (cf' := (24, [(3, .int (v3 + (1 : Int32))), (2, .int (s1 + s0)), (0, .ref 42), (1, .int v1)], [], LAY, S)) (by rfl) ?_
  refine aLocs [2, 3, 1, 0] (lv' := [(0, .ref 42), (1, .int v1), (2, .int (s1 + s0)), (3, .int (v3 + (1 : Int32)))]) rfl ?_
  exact hrec24 v1 (s1 + s0) (v3 + (1 : Int32)) S hf
def X11_ofKind_42_b24 (N : Nat) (rec24 : Int32 → Int32 → Int32 → aSt → Option (Int32 × aSt)) (v1 : Int32) (v2 : Int32) (v3 : Int32) (S : aSt) : Option (Int32 × aSt) := (if (S.1 42 25) ≤ v3 then some ((v2, S)) else (if aIx v3 2048 = true then (if aIx ((S.2.2 55) v3.toNatClampNeg) 2048 = true then (if ((S.2.2 50) ((S.2.2 55) v3.toNatClampNeg).toNatClampNeg) = v1 then (X11_ofKind_42_b53 N rec24 v1 v3 (1 : Int32) v2 S) else (X11_ofKind_42_b53 N rec24 v1 v3 (0 : Int32) v2 S)) else none) else none))
set_option maxHeartbeats 4000000 in
set_option maxRecDepth 100000 in
theorem X11_ofKind_42_b24_ok {C : aC} {N : Nat} {rec24 : Int32 → Int32 → Int32 → aSt → Option (Int32 × aSt)} (hC : aCx C M_X11_ofKind) {r : Int32 × aSt} (hF : aFin C (some (.int r.1)) LAY r.2 0 0) (hrec24 : ∀ (v1 : Int32) (v2 : Int32) (v3 : Int32) (S : aSt), rec24 v1 v2 v3 S = (some r) → aX C M_X11_ofKind 0 0 (24, [(0, .ref 42), (1, .int v1), (2, .int v2), (3, .int v3)], [], LAY, S)) (v1 : Int32) (v2 : Int32) (v3 : Int32) (S : aSt) (hf : X11_ofKind_42_b24 N rec24 v1 v2 v3 S = (some r)) : aX C M_X11_ofKind 0 0 (24, [(0, .ref 42), (1, .int v1), (2, .int v2), (3, .int v3)], [], LAY, S) := by
  have hT := ok_X11_ofKind
  unfold X11_ofKind_42_b24 at hf
  refine aRun_ok hC hT 3 (cf' := (29, [(0, .ref 42), (1, .int v1), (2, .int v2), (3, .int v3)], [.int (S.1 42 25), .int v3], LAY, S)) (by rfl) ?_
  refine aCmp_ge hC hT (tgt := 61) rfl (by decide) (fun hc6 => ?_) (fun hc6 => ?_)
  · have hf := aIfT hf hc6
    refine aRun_ok hC hT 1 (cf' := (62, [(0, .ref 42), (1, .int v1), (2, .int v2), (3, .int v3)], [.int v2], LAY, S)) (by rfl) ?_
    have e9 := Option.some.inj hf; subst e9
    exact aRetI hC hT hF rfl rfl
  · have hf := aIfF hf hc6
    refine aRun_ok hC hT 6 (cf' := (42, [(0, .ref 42), (1, .int v1), (2, .int v2), (3, .int v3)], [.int v3, .ref 55, .ref 50, .int v2], LAY, S)) (by rfl) ?_
    obtain ⟨hin7, hf⟩ := aGdE hf
    refine aIald hC hT rfl (by decide) (by rfl) hin7 ?_
    obtain ⟨hin8, hf⟩ := aGdE hf
    refine aIald hC hT rfl (by decide) (by rfl) hin8 ?_
    refine aRun_ok hC hT 1 (cf' := (45, [(0, .ref 42), (1, .int v1), (2, .int v2), (3, .int v3)], [.int v1, .int ((S.2.2 50) ((S.2.2 55) v3.toNatClampNeg).toNatClampNeg), .int v2], LAY, S)) (by rfl) ?_
    refine aCmp_ne hC hT (tgt := 52) rfl (by decide) (fun hc9 => ?_) (fun hc9 => ?_)
    · have hf := aIfF hf hc9
      refine aRun_ok hC hT 1 (cf' := (53, [(0, .ref 42), (1, .int v1), (2, .int v2), (3, .int v3)], [.int (0 : Int32), .int v2], LAY, S)) (by rfl) ?_
      refine aLocs [0, 1, 3] (lv' := [(0, .ref 42), (1, .int v1), (3, .int v3)]) rfl ?_
      exact X11_ofKind_42_b53_ok hC hF hrec24 v1 v3 (0 : Int32) v2 S hf
    · have hf := aIfT hf hc9
      refine aRun_ok hC hT 2 (cf' := (53, [(0, .ref 42), (1, .int v1), (2, .int v2), (3, .int v3)], [.int (1 : Int32), .int v2], LAY, S)) (by rfl) ?_
      refine aLocs [0, 1, 3] (lv' := [(0, .ref 42), (1, .int v1), (3, .int v3)]) rfl ?_
      exact X11_ofKind_42_b53_ok hC hF hrec24 v1 v3 (1 : Int32) v2 S hf
def X11_ofKind_42_l24 (N : Nat) : Nat → Int32 → Int32 → Int32 → aSt → Option (Int32 × aSt)
  | 0 => fun _ _ _ _ => none
  | n + 1 => X11_ofKind_42_b24 N (X11_ofKind_42_l24 N n)
theorem X11_ofKind_42_l24_ok {C : aC} {N : Nat} (hC : aCx C M_X11_ofKind) {r : Int32 × aSt} (hF : aFin C (some (.int r.1)) LAY r.2 0 0) : ∀ (n : Nat) (v1 : Int32) (v2 : Int32) (v3 : Int32) (S : aSt), X11_ofKind_42_l24 N n v1 v2 v3 S = (some r) → aX C M_X11_ofKind 0 0 (24, [(0, .ref 42), (1, .int v1), (2, .int v2), (3, .int v3)], [], LAY, S)
  | 0, _, _, _, _,  h => nomatch (show (none : Option (Int32 × aSt)) = some _ from h)
  | n + 1, v1, v2, v3, S,  h => X11_ofKind_42_b24_ok hC hF (fun v1 v2 v3 S h => X11_ofKind_42_l24_ok hC hF n v1 v2 v3 S h) v1 v2 v3 S h
def X11_ofKind_42 (N : Nat) (a1 : Int32) (S : aSt) : Option (Int32 × aSt) := (aLet (X11_in (a1.toInt64) (0 : Int64) (6 : Int64)) (fun w1 => (if w1 = (0 : Int32) then some ((((-2) : Int32), S)) else (Option.bind (X11_layOnes_42 N (0 : Int32) S) (fun w4 => (X11_ofKind_42_l24 N N a1 (0 : Int32) (0 : Int32) w4))))))
set_option maxHeartbeats 4000000 in
set_option maxRecDepth 100000 in
theorem J_X11_ofKind_42 (l : Launch) (g : aWg) (N : Nat) (a1 : Int32) (S : aSt) {r : Int32 × aSt} (hf : X11_ofKind_42 N a1 S = (some r)) : aJ l g yX11_ofKind M_X11_ofKind [.ref 42, .int a1] LAY S (some (.int r.1)) LAY r.2 0 0 := by
  refine aJ_of (by decide +kernel) rfl (Nat.le_of_ble_eq_true rfl) (fun h => nomatch h) ?_
  intro C hg hl hC hz hF
  subst hg; subst hl
  have hT := ok_X11_ofKind
  unfold X11_ofKind_42 at hf
  show aX C M_X11_ofKind 0 0 (0, [(0, .ref 42), (1, .int a1)], [], LAY, S)
  refine aRun_ok hC hT 4 (cf' := (6, [(0, .ref 42), (1, .int a1)], [.long (6 : Int64), .long (0 : Int64), .long (a1.toInt64)], LAY, S)) (by rfl) ?_
  obtain ⟨w1, ew2, hf⟩ := aLetE hf
  refine aCallS (As := [.long (a1.toInt64), .long (0 : Int64), .long (6 : Int64)]) (rest := []) hC hT rfl k_X11_ofKind_70.1 _ k_X11_ofKind_70.2 (by rfl) (Nat.le_of_ble_eq_true rfl) (by decide) (J_X11_in C.2.2.1 C.1 (a1.toInt64) (0 : Int64) (6 : Int64) S ew2) ?_
  refine aIf_ne hC hT (tgt := 15) rfl (by decide) (fun hc3 => ?_) (fun hc3 => ?_)
  · have hf := aIfF hf hc3
    refine aRun_ok hC hT 2 (cf' := (17, [(0, .ref 42), (1, .int a1)], [.int (0 : Int32), .ref 42], LAY, S)) (by rfl) ?_
    obtain ⟨w4, ew5, hf⟩ := aBnE hf
    refine aCallV (b := 42) (As := [.int (0 : Int32)]) (rest := []) hC hT rfl k_X11_ofKind_227.1 _ _ k_X11_ofKind_227.2 (by decide) (by rfl) (by rfl) (by rfl) (Nat.le_of_ble_eq_true rfl) (by decide) (J_X11_layOnes_42 C.2.2.1 C.1 N (0 : Int32) S ew5) ?_
    refine aRun_ok hC hT 4 (cf' := (24, [(3, .int (0 : Int32)), (2, .int (0 : Int32)), (0, .ref 42), (1, .int a1)], [], LAY, w4)) (by rfl) ?_
    refine aLocs [2, 3, 1, 0] (lv' := [(0, .ref 42), (1, .int a1), (2, .int (0 : Int32)), (3, .int (0 : Int32))]) rfl ?_
    exact X11_ofKind_42_l24_ok hC hF N a1 (0 : Int32) (0 : Int32) w4 hf
  · have hf := aIfT hf hc3
    refine aRun_ok hC hT 1 (cf' := (14, [(0, .ref 42), (1, .int a1)], [.int ((-2) : Int32)], LAY, S)) (by rfl) ?_
    have e9 := Option.some.inj hf; subst e9
    exact aRetI hC hT hF rfl rfl
def X11_off_42 (N : Nat) (a1 : Int32) (S : aSt) : Option (Int32) := (aLet (X11_in (a1.toInt64) (0 : Int64) (5 : Int64)) (fun w1 => (if w1 = (0 : Int32) then some (((-2) : Int32)) else (aLet (X11_hasDue_42 a1 S) (fun w4 => (if w4 = (0 : Int32) then some (((-1) : Int32)) else (Option.bind (X11_offOf_42 N a1 S) (fun w7 => some ((w7 + (50000000 : Int32)))))))))))
set_option maxHeartbeats 4000000 in
set_option maxRecDepth 100000 in
theorem J_X11_off_42 (l : Launch) (g : aWg) (N : Nat) (a1 : Int32) (S : aSt) {r : Int32} (hf : X11_off_42 N a1 S = (some r)) : aJ l g yX11_off M_X11_off [.ref 42, .int a1] LAY S (some (.int r)) LAY S 0 0 := by
  refine aJ_of (by decide +kernel) rfl (Nat.le_of_ble_eq_true rfl) (fun h => nomatch h) ?_
  intro C hg hl hC hz hF
  subst hg; subst hl
  have hT := ok_X11_off
  unfold X11_off_42 at hf
  show aX C M_X11_off 0 0 (0, [(0, .ref 42), (1, .int a1)], [], LAY, S)
  refine aRun_ok hC hT 4 (cf' := (6, [(0, .ref 42), (1, .int a1)], [.long (5 : Int64), .long (0 : Int64), .long (a1.toInt64)], LAY, S)) (by rfl) ?_
  obtain ⟨w1, ew2, hf⟩ := aLetE hf
  refine aCallS (As := [.long (a1.toInt64), .long (0 : Int64), .long (5 : Int64)]) (rest := []) hC hT rfl k_X11_off_70.1 _ k_X11_off_70.2 (by rfl) (Nat.le_of_ble_eq_true rfl) (by decide) (J_X11_in C.2.2.1 C.1 (a1.toInt64) (0 : Int64) (5 : Int64) S ew2) ?_
  refine aIf_ne hC hT (tgt := 15) rfl (by decide) (fun hc3 => ?_) (fun hc3 => ?_)
  · have hf := aIfF hf hc3
    refine aRun_ok hC hT 2 (cf' := (17, [(0, .ref 42), (1, .int a1)], [.int a1, .ref 42], LAY, S)) (by rfl) ?_
    obtain ⟨w4, ew5, hf⟩ := aLetE hf
    refine aCallV (b := 42) (As := [.int a1]) (rest := []) hC hT rfl k_X11_off_159.1 _ _ k_X11_off_159.2 (by decide) (by rfl) (by rfl) (by rfl) (Nat.le_of_ble_eq_true rfl) (by decide) (J_X11_hasDue_42 C.2.2.1 C.1 a1 S ew5) ?_
    refine aIf_eq hC hT (tgt := 34) rfl (by decide) (fun hc6 => ?_) (fun hc6 => ?_)
    · have hf := aIfT hf hc6
      refine aRun_ok hC hT 1 (cf' := (35, [(0, .ref 42), (1, .int a1)], [.int ((-1) : Int32)], LAY, S)) (by rfl) ?_
      have e9 := Option.some.inj hf; subst e9
      exact aRetI hC hT hF rfl rfl
    · have hf := aIfF hf hc6
      refine aRun_ok hC hT 2 (cf' := (25, [(0, .ref 42), (1, .int a1)], [.int a1, .ref 42], LAY, S)) (by rfl) ?_
      obtain ⟨w7, ew8, hf⟩ := aBnE hf
      refine aCallV (b := 42) (As := [.int a1]) (rest := []) hC hT rfl k_X11_off_162.1 _ _ k_X11_off_162.2 (by decide) (by rfl) (by rfl) (by rfl) (Nat.le_of_ble_eq_true rfl) (by decide) (J_X11_offOf_42 C.2.2.1 C.1 N a1 S ew8) ?_
      refine aRun_ok hC hT 3 (cf' := (35, [(0, .ref 42), (1, .int a1)], [.int (w7 + (50000000 : Int32))], LAY, S)) (by rfl) ?_
      have e9 := Option.some.inj hf; subst e9
      exact aRetI hC hT hF rfl rfl
  · have hf := aIfT hf hc3
    refine aRun_ok hC hT 1 (cf' := (14, [(0, .ref 42), (1, .int a1)], [.int ((-2) : Int32)], LAY, S)) (by rfl) ?_
    have e9 := Option.some.inj hf; subst e9
    exact aRetI hC hT hF rfl rfl
def X11_one_42_b38 (N : Nat) (v1 : Int32) (S : aSt) : Option (Int32 × aSt) := (if v1 = ((-1) : Int32) then some (((S.1 42 25), S)) else some ((((-1) : Int32), S)))
set_option maxHeartbeats 4000000 in
set_option maxRecDepth 100000 in
theorem X11_one_42_b38_ok {C : aC} {N : Nat} (hC : aCx C M_X11_one) {r : Int32 × aSt} (hF : aFin C (some (.int r.1)) LAY r.2 0 0) (v1 : Int32) (S : aSt) (hf : X11_one_42_b38 N v1 S = (some r)) : aX C M_X11_one 0 0 (38, [(0, .ref 42), (1, .int v1)], [], LAY, S) := by
  have hT := ok_X11_one
  unfold X11_one_42_b38 at hf
  refine aRun_ok hC hT 2 (cf' := (40, [(0, .ref 42), (1, .int v1)], [.int ((-1) : Int32), .int v1], LAY, S)) (by rfl) ?_
  refine aCmp_ne hC hT (tgt := 50) rfl (by decide) (fun hc8 => ?_) (fun hc8 => ?_)
  · have hf := aIfF hf hc8
    refine aRun_ok hC hT 1 (cf' := (51, [(0, .ref 42), (1, .int v1)], [.int ((-1) : Int32)], LAY, S)) (by rfl) ?_
    have e9 := Option.some.inj hf; subst e9
    exact aRetI hC hT hF rfl rfl
  · have hf := aIfT hf hc8
    refine aRun_ok hC hT 3 (cf' := (51, [(0, .ref 42), (1, .int v1)], [.int (S.1 42 25)], LAY, S)) (by rfl) ?_
    have e9 := Option.some.inj hf; subst e9
    exact aRetI hC hT hF rfl rfl
def X11_one_42 (N : Nat) (a1 : Int32) (a2 : Int32) (a3 : Int32) (S : aSt) : Option (Int32 × aSt) := (if a1 < ((-1) : Int32) then some ((((-3) : Int32), S)) else (aLet (X11_in (a2.toInt64) (0 : Int64) (4 : Int64)) (fun w2 => (if w2 = (0 : Int32) then some ((((-3) : Int32), S)) else (Option.bind (X11_layOnes_42 N a3 S) (fun w5 => (if a1 = ((-1) : Int32) then (X11_one_42_b38 N a1 w5) else (if a1 < (w5.1 42 25) then (if aIx a1 2048 = true then (if a2 = (0 : Int32) then (if aIx ((w5.2.2 55) a1.toNatClampNeg) 2048 = true then some ((((w5.2.2 50) ((w5.2.2 55) a1.toNatClampNeg).toNatClampNeg), w5)) else none) else (if a2 = (1 : Int32) then (if aIx ((w5.2.2 55) a1.toNatClampNeg) 2048 = true then some ((((w5.2.2 51) ((w5.2.2 55) a1.toNatClampNeg).toNatClampNeg), w5)) else none) else (if a2 = (2 : Int32) then (if aIx ((w5.2.2 55) a1.toNatClampNeg) 2048 = true then some ((((w5.2.2 52) ((w5.2.2 55) a1.toNatClampNeg).toNatClampNeg), w5)) else none) else (if a2 = (3 : Int32) then (if aIx ((w5.2.2 55) a1.toNatClampNeg) 2048 = true then some (((((w5.2.2 53) ((w5.2.2 55) a1.toNatClampNeg).toNatClampNeg) + (50000000 : Int32)), w5)) else none) else (if aIx ((w5.2.2 55) a1.toNatClampNeg) 2048 = true then some ((((w5.2.2 54) ((w5.2.2 55) a1.toNatClampNeg).toNatClampNeg), w5)) else none))))) else none) else (X11_one_42_b38 N a1 w5)))))))))
set_option maxHeartbeats 4000000 in
set_option maxRecDepth 100000 in
theorem J_X11_one_42 (l : Launch) (g : aWg) (N : Nat) (a1 : Int32) (a2 : Int32) (a3 : Int32) (S : aSt) {r : Int32 × aSt} (hf : X11_one_42 N a1 a2 a3 S = (some r)) : aJ l g yX11_one M_X11_one [.ref 42, .int a1, .int a2, .int a3] LAY S (some (.int r.1)) LAY r.2 0 0 := by
  refine aJ_of (by decide +kernel) rfl (Nat.le_of_ble_eq_true rfl) (fun h => nomatch h) ?_
  intro C hg hl hC hz hF
  subst hg; subst hl
  have hT := ok_X11_one
  unfold X11_one_42 at hf
  show aX C M_X11_one 0 0 (0, [(0, .ref 42), (1, .int a1), (2, .int a2), (3, .int a3)], [], LAY, S)
  refine aRun_ok hC hT 2 (cf' := (2, [(0, .ref 42), (1, .int a1), (2, .int a2), (3, .int a3)], [.int ((-1) : Int32), .int a1], LAY, S)) (by rfl) ?_
  refine aCmp_lt hC hT (tgt := 17) rfl (by decide) (fun hc1 => ?_) (fun hc1 => ?_)
  · have hf := aIfT hf hc1
    refine aRun_ok hC hT 1 (cf' := (19, [(0, .ref 42), (1, .int a1), (2, .int a2), (3, .int a3)], [.int ((-3) : Int32)], LAY, S)) (by rfl) ?_
    have e9 := Option.some.inj hf; subst e9
    exact aRetI hC hT hF rfl rfl
  · have hf := aIfF hf hc1
    refine aRun_ok hC hT 4 (cf' := (11, [(0, .ref 42), (1, .int a1), (2, .int a2), (3, .int a3)], [.long (4 : Int64), .long (0 : Int64), .long (a2.toInt64)], LAY, S)) (by rfl) ?_
    obtain ⟨w2, ew3, hf⟩ := aLetE hf
    refine aCallS (As := [.long (a2.toInt64), .long (0 : Int64), .long (4 : Int64)]) (rest := []) hC hT rfl k_X11_one_70.1 _ k_X11_one_70.2 (by rfl) (Nat.le_of_ble_eq_true rfl) (by decide) (J_X11_in C.2.2.1 C.1 (a2.toInt64) (0 : Int64) (4 : Int64) S ew3) ?_
    refine aIf_ne hC hT (tgt := 20) rfl (by decide) (fun hc4 => ?_) (fun hc4 => ?_)
    · have hf := aIfF hf hc4
      refine aRun_ok hC hT 2 (cf' := (22, [(0, .ref 42), (1, .int a1), (2, .int a2), (3, .int a3)], [.int a3, .ref 42], LAY, S)) (by rfl) ?_
      obtain ⟨w5, ew6, hf⟩ := aBnE hf
      refine aCallV (b := 42) (As := [.int a3]) (rest := []) hC hT rfl k_X11_one_227.1 _ _ k_X11_one_227.2 (by decide) (by rfl) (by rfl) (by rfl) (Nat.le_of_ble_eq_true rfl) (by decide) (J_X11_layOnes_42 C.2.2.1 C.1 N a3 S ew6) ?_
      refine aRun_ok hC hT 2 (cf' := (27, [(0, .ref 42), (1, .int a1), (2, .int a2), (3, .int a3)], [.int ((-1) : Int32), .int a1], LAY, w5)) (by rfl) ?_
      refine aCmp_eq hC hT (tgt := 38) rfl (by decide) (fun hc7 => ?_) (fun hc7 => ?_)
      · have hf := aIfT hf hc7
        refine aLocs [0, 1] (lv' := [(0, .ref 42), (1, .int a1)]) rfl ?_
        exact X11_one_42_b38_ok hC hF a1 w5 hf
      · have hf := aIfF hf hc7
        refine aRun_ok hC hT 3 (cf' := (35, [(0, .ref 42), (1, .int a1), (2, .int a2), (3, .int a3)], [.int (w5.1 42 25), .int a1], LAY, w5)) (by rfl) ?_
        refine aCmp_lt hC hT (tgt := 52) rfl (by decide) (fun hc9 => ?_) (fun hc9 => ?_)
        · have hf := aIfT hf hc9
          refine aRun_ok hC hT 3 (cf' := (57, [(0, .ref 42), (1, .int a1), (2, .int a2), (3, .int a3)], [.int a1, .ref 55], LAY, w5)) (by rfl) ?_
          obtain ⟨hin10, hf⟩ := aGdE hf
          refine aIald hC hT rfl (by decide) (by rfl) hin10 ?_
          refine aRun_ok hC hT 2 (cf' := (61, [(4, .int ((w5.2.2 55) a1.toNatClampNeg)), (0, .ref 42), (1, .int a1), (2, .int a2), (3, .int a3)], [.int a2], LAY, w5)) (by rfl) ?_
          refine aIf_ne hC hT (tgt := 74) rfl (by decide) (fun hc11 => ?_) (fun hc11 => ?_)
          · have hf := aIfF hf hc11
            refine aRun_ok hC hT 2 (cf' := (76, [(4, .int ((w5.2.2 55) a1.toNatClampNeg)), (0, .ref 42), (1, .int a1), (2, .int a2), (3, .int a3)], [.int (1 : Int32), .int a2], LAY, w5)) (by rfl) ?_
            refine aCmp_ne hC hT (tgt := 89) rfl (by decide) (fun hc12 => ?_) (fun hc12 => ?_)
            · have hf := aIfF hf hc12
              refine aRun_ok hC hT 2 (cf' := (91, [(4, .int ((w5.2.2 55) a1.toNatClampNeg)), (0, .ref 42), (1, .int a1), (2, .int a2), (3, .int a3)], [.int (2 : Int32), .int a2], LAY, w5)) (by rfl) ?_
              refine aCmp_ne hC hT (tgt := 104) rfl (by decide) (fun hc13 => ?_) (fun hc13 => ?_)
              · have hf := aIfF hf hc13
                refine aRun_ok hC hT 2 (cf' := (106, [(4, .int ((w5.2.2 55) a1.toNatClampNeg)), (0, .ref 42), (1, .int a1), (2, .int a2), (3, .int a3)], [.int (3 : Int32), .int a2], LAY, w5)) (by rfl) ?_
                refine aCmp_ne hC hT (tgt := 122) rfl (by decide) (fun hc14 => ?_) (fun hc14 => ?_)
                · have hf := aIfF hf hc14
                  refine aRun_ok hC hT 3 (cf' := (128, [(4, .int ((w5.2.2 55) a1.toNatClampNeg)), (0, .ref 42), (1, .int a1), (2, .int a2), (3, .int a3)], [.int ((w5.2.2 55) a1.toNatClampNeg), .ref 54], LAY, w5)) (by rfl) ?_
                  obtain ⟨hin15, hf⟩ := aGdE hf
                  refine aIald hC hT rfl (by decide) (by rfl) hin15 ?_
                  have e9 := Option.some.inj hf; subst e9
                  exact aRetI hC hT hF rfl rfl
                · have hf := aIfT hf hc14
                  refine aRun_ok hC hT 3 (cf' := (115, [(4, .int ((w5.2.2 55) a1.toNatClampNeg)), (0, .ref 42), (1, .int a1), (2, .int a2), (3, .int a3)], [.int ((w5.2.2 55) a1.toNatClampNeg), .ref 53], LAY, w5)) (by rfl) ?_
                  obtain ⟨hin16, hf⟩ := aGdE hf
                  refine aIald hC hT rfl (by decide) (by rfl) hin16 ?_
                  refine aRun_ok hC hT 3 (cf' := (129, [(4, .int ((w5.2.2 55) a1.toNatClampNeg)), (0, .ref 42), (1, .int a1), (2, .int a2), (3, .int a3)], [.int (((w5.2.2 53) ((w5.2.2 55) a1.toNatClampNeg).toNatClampNeg) + (50000000 : Int32))], LAY, w5)) (by rfl) ?_
                  have e9 := Option.some.inj hf; subst e9
                  exact aRetI hC hT hF rfl rfl
              · have hf := aIfT hf hc13
                refine aRun_ok hC hT 3 (cf' := (100, [(4, .int ((w5.2.2 55) a1.toNatClampNeg)), (0, .ref 42), (1, .int a1), (2, .int a2), (3, .int a3)], [.int ((w5.2.2 55) a1.toNatClampNeg), .ref 52], LAY, w5)) (by rfl) ?_
                obtain ⟨hin17, hf⟩ := aGdE hf
                refine aIald hC hT rfl (by decide) (by rfl) hin17 ?_
                refine aRun_ok hC hT 1 (cf' := (129, [(4, .int ((w5.2.2 55) a1.toNatClampNeg)), (0, .ref 42), (1, .int a1), (2, .int a2), (3, .int a3)], [.int ((w5.2.2 52) ((w5.2.2 55) a1.toNatClampNeg).toNatClampNeg)], LAY, w5)) (by rfl) ?_
                have e9 := Option.some.inj hf; subst e9
                exact aRetI hC hT hF rfl rfl
            · have hf := aIfT hf hc12
              refine aRun_ok hC hT 3 (cf' := (85, [(4, .int ((w5.2.2 55) a1.toNatClampNeg)), (0, .ref 42), (1, .int a1), (2, .int a2), (3, .int a3)], [.int ((w5.2.2 55) a1.toNatClampNeg), .ref 51], LAY, w5)) (by rfl) ?_
              obtain ⟨hin18, hf⟩ := aGdE hf
              refine aIald hC hT rfl (by decide) (by rfl) hin18 ?_
              refine aRun_ok hC hT 1 (cf' := (129, [(4, .int ((w5.2.2 55) a1.toNatClampNeg)), (0, .ref 42), (1, .int a1), (2, .int a2), (3, .int a3)], [.int ((w5.2.2 51) ((w5.2.2 55) a1.toNatClampNeg).toNatClampNeg)], LAY, w5)) (by rfl) ?_
              have e9 := Option.some.inj hf; subst e9
              exact aRetI hC hT hF rfl rfl
          · have hf := aIfT hf hc11
            refine aRun_ok hC hT 3 (cf' := (70, [(4, .int ((w5.2.2 55) a1.toNatClampNeg)), (0, .ref 42), (1, .int a1), (2, .int a2), (3, .int a3)], [.int ((w5.2.2 55) a1.toNatClampNeg), .ref 50], LAY, w5)) (by rfl) ?_
            obtain ⟨hin19, hf⟩ := aGdE hf
            refine aIald hC hT rfl (by decide) (by rfl) hin19 ?_
            refine aRun_ok hC hT 1 (cf' := (129, [(4, .int ((w5.2.2 55) a1.toNatClampNeg)), (0, .ref 42), (1, .int a1), (2, .int a2), (3, .int a3)], [.int ((w5.2.2 50) ((w5.2.2 55) a1.toNatClampNeg).toNatClampNeg)], LAY, w5)) (by rfl) ?_
            have e9 := Option.some.inj hf; subst e9
            exact aRetI hC hT hF rfl rfl
        · have hf := aIfF hf hc9
          refine aLocs [0, 1] (lv' := [(0, .ref 42), (1, .int a1)]) rfl ?_
          exact X11_one_42_b38_ok hC hF a1 w5 hf
    · have hf := aIfT hf hc4
      refine aRun_ok hC hT 1 (cf' := (19, [(0, .ref 42), (1, .int a1), (2, .int a2), (3, .int a3)], [.int ((-3) : Int32)], LAY, S)) (by rfl) ?_
      have e9 := Option.some.inj hf; subst e9
      exact aRetI hC hT hF rfl rfl
def X11_other_42 (N : Nat) (a1 : Int32) (S : aSt) : Option (Int32 × aSt) := (aLet (X11_in (a1.toInt64) (1 : Int64) (999999 : Int64)) (fun w1 => (if w1 = (0 : Int32) then some ((((-3) : Int32), S)) else (if (S.1 42 14) = (12 : Int32) then some ((((-5) : Int32), S)) else (if aIx (S.1 42 14) 12 = true then some ((((S.1 42 14) + (1 : Int32)), (aI (aA S 49 (upd (S.2.2 49) (S.1 42 14).toNatClampNeg a1)) 42 14 ((S.1 42 14) + (1 : Int32))))) else none)))))
set_option maxHeartbeats 4000000 in
set_option maxRecDepth 100000 in
theorem J_X11_other_42 (l : Launch) (g : aWg) (N : Nat) (a1 : Int32) (S : aSt) {r : Int32 × aSt} (hf : X11_other_42 N a1 S = (some r)) : aJ l g yX11_other M_X11_other [.ref 42, .int a1] LAY S (some (.int r.1)) LAY r.2 0 0 := by
  refine aJ_of (by decide +kernel) rfl (Nat.le_of_ble_eq_true rfl) (fun h => nomatch h) ?_
  intro C hg hl hC hz hF
  subst hg; subst hl
  have hT := ok_X11_other
  unfold X11_other_42 at hf
  show aX C M_X11_other 0 0 (0, [(0, .ref 42), (1, .int a1)], [], LAY, S)
  refine aRun_ok hC hT 4 (cf' := (6, [(0, .ref 42), (1, .int a1)], [.long (999999 : Int64), .long (1 : Int64), .long (a1.toInt64)], LAY, S)) (by rfl) ?_
  obtain ⟨w1, ew2, hf⟩ := aLetE hf
  refine aCallS (As := [.long (a1.toInt64), .long (1 : Int64), .long (999999 : Int64)]) (rest := []) hC hT rfl k_X11_other_70.1 _ k_X11_other_70.2 (by rfl) (Nat.le_of_ble_eq_true rfl) (by decide) (J_X11_in C.2.2.1 C.1 (a1.toInt64) (1 : Int64) (999999 : Int64) S ew2) ?_
  refine aIf_ne hC hT (tgt := 15) rfl (by decide) (fun hc3 => ?_) (fun hc3 => ?_)
  · have hf := aIfF hf hc3
    refine aRun_ok hC hT 3 (cf' := (21, [(0, .ref 42), (1, .int a1)], [.int (12 : Int32), .int (S.1 42 14)], LAY, S)) (by rfl) ?_
    refine aCmp_ne hC hT (tgt := 27) rfl (by decide) (fun hc4 => ?_) (fun hc4 => ?_)
    · have hf := aIfF hf hc4
      refine aRun_ok hC hT 5 (cf' := (36, [(0, .ref 42), (1, .int a1)], [.int a1, .int (S.1 42 14), .ref 49], LAY, S)) (by rfl) ?_
      obtain ⟨hin5, hf⟩ := aGdE hf
      refine aIast hC hT rfl (by decide) (by rfl) hin5 ?_
      refine aRun_ok hC hT 8 (cf' := (51, [(0, .ref 42), (1, .int a1)], [.int ((S.1 42 14) + (1 : Int32))], LAY, (aI (aA S 49 (upd (S.2.2 49) (S.1 42 14).toNatClampNeg a1)) 42 14 ((S.1 42 14) + (1 : Int32))))) (by rfl) ?_
      have e9 := Option.some.inj hf; subst e9
      exact aRetI hC hT hF rfl rfl
    · have hf := aIfT hf hc4
      refine aRun_ok hC hT 1 (cf' := (26, [(0, .ref 42), (1, .int a1)], [.int ((-5) : Int32)], LAY, S)) (by rfl) ?_
      have e9 := Option.some.inj hf; subst e9
      exact aRetI hC hT hF rfl rfl
  · have hf := aIfT hf hc3
    refine aRun_ok hC hT 1 (cf' := (14, [(0, .ref 42), (1, .int a1)], [.int ((-3) : Int32)], LAY, S)) (by rfl) ?_
    have e9 := Option.some.inj hf; subst e9
    exact aRetI hC hT hF rfl rfl
def X11_out_42 (N : Nat) (a1 : Int32) (S : aSt) : Option (Int32) := (aLet (X11_in (a1.toInt64) ((-1) : Int64) (5 : Int64)) (fun w1 => (if w1 = (0 : Int32) then some (((-2) : Int32)) else (Option.bind (X11_outOf_42 N a1 S) (fun w4 => some ((w4 + (50000000 : Int32))))))))
set_option maxHeartbeats 4000000 in
set_option maxRecDepth 100000 in
theorem J_X11_out_42 (l : Launch) (g : aWg) (N : Nat) (a1 : Int32) (S : aSt) {r : Int32} (hf : X11_out_42 N a1 S = (some r)) : aJ l g yX11_out M_X11_out [.ref 42, .int a1] LAY S (some (.int r)) LAY S 0 0 := by
  refine aJ_of (by decide +kernel) rfl (Nat.le_of_ble_eq_true rfl) (fun h => nomatch h) ?_
  intro C hg hl hC hz hF
  subst hg; subst hl
  have hT := ok_X11_out
  unfold X11_out_42 at hf
  show aX C M_X11_out 0 0 (0, [(0, .ref 42), (1, .int a1)], [], LAY, S)
  refine aRun_ok hC hT 4 (cf' := (8, [(0, .ref 42), (1, .int a1)], [.long (5 : Int64), .long ((-1) : Int64), .long (a1.toInt64)], LAY, S)) (by rfl) ?_
  obtain ⟨w1, ew2, hf⟩ := aLetE hf
  refine aCallS (As := [.long (a1.toInt64), .long ((-1) : Int64), .long (5 : Int64)]) (rest := []) hC hT rfl k_X11_out_70.1 _ k_X11_out_70.2 (by rfl) (Nat.le_of_ble_eq_true rfl) (by decide) (J_X11_in C.2.2.1 C.1 (a1.toInt64) ((-1) : Int64) (5 : Int64) S ew2) ?_
  refine aIf_eq hC hT (tgt := 25) rfl (by decide) (fun hc3 => ?_) (fun hc3 => ?_)
  · have hf := aIfT hf hc3
    refine aRun_ok hC hT 1 (cf' := (27, [(0, .ref 42), (1, .int a1)], [.int ((-2) : Int32)], LAY, S)) (by rfl) ?_
    have e9 := Option.some.inj hf; subst e9
    exact aRetI hC hT hF rfl rfl
  · have hf := aIfF hf hc3
    refine aRun_ok hC hT 2 (cf' := (16, [(0, .ref 42), (1, .int a1)], [.int a1, .ref 42], LAY, S)) (by rfl) ?_
    obtain ⟨w4, ew5, hf⟩ := aBnE hf
    refine aCallV (b := 42) (As := [.int a1]) (rest := []) hC hT rfl k_X11_out_155.1 _ _ k_X11_out_155.2 (by decide) (by rfl) (by rfl) (by rfl) (Nat.le_of_ble_eq_true rfl) (by decide) (J_X11_outOf_42 C.2.2.1 C.1 N a1 S ew5) ?_
    refine aRun_ok hC hT 3 (cf' := (27, [(0, .ref 42), (1, .int a1)], [.int (w4 + (50000000 : Int32))], LAY, S)) (by rfl) ?_
    have e9 := Option.some.inj hf; subst e9
    exact aRetI hC hT hF rfl rfl
def X11_pair_42_b46 (N : Nat) (v2 : Int32) (s0 : Int32) (S : aSt) : Option (Int32 × aSt) := (if (v2 - v2 / (3 : Int32) * (3 : Int32)) = (0 : Int32) then (if aIx s0 2048 = true then some ((((S.2.2 50) s0.toNatClampNeg), S)) else none) else (if (v2 - v2 / (3 : Int32) * (3 : Int32)) = (1 : Int32) then (if aIx s0 2048 = true then some ((((S.2.2 51) s0.toNatClampNeg), S)) else none) else (if aIx s0 2048 = true then some ((((S.2.2 52) s0.toNatClampNeg), S)) else none)))
set_option maxHeartbeats 4000000 in
set_option maxRecDepth 100000 in
theorem X11_pair_42_b46_ok {C : aC} {N : Nat} (hC : aCx C M_X11_pair) {r : Int32 × aSt} (hF : aFin C (some (.int r.1)) LAY r.2 0 0) (v2 : Int32) (s0 : Int32) (S : aSt) (hf : X11_pair_42_b46 N v2 s0 S = (some r)) : aX C M_X11_pair 0 0 (46, [(0, .ref 42), (2, .int v2)], [.int s0], LAY, S) := by
  have hT := ok_X11_pair
  unfold X11_pair_42_b46 at hf
  refine aRun_ok hC hT 6 (cf' := (54, [(4, .int (v2 - v2 / (3 : Int32) * (3 : Int32))), (3, .int s0), (0, .ref 42), (2, .int v2)], [.int (v2 - v2 / (3 : Int32) * (3 : Int32))], LAY, S)) (by rfl) ?_
  refine aIf_ne hC hT (tgt := 66) rfl (by decide) (fun hc8 => ?_) (fun hc8 => ?_)
  · have hf := aIfF hf hc8
    refine aRun_ok hC hT 2 (cf' := (69, [(4, .int (v2 - v2 / (3 : Int32) * (3 : Int32))), (3, .int s0), (0, .ref 42), (2, .int v2)], [.int (1 : Int32), .int (v2 - v2 / (3 : Int32) * (3 : Int32))], LAY, S)) (by rfl) ?_
    refine aCmp_ne hC hT (tgt := 81) rfl (by decide) (fun hc9 => ?_) (fun hc9 => ?_)
    · have hf := aIfF hf hc9
      refine aRun_ok hC hT 3 (cf' := (86, [(4, .int (v2 - v2 / (3 : Int32) * (3 : Int32))), (3, .int s0), (0, .ref 42), (2, .int v2)], [.int s0, .ref 52], LAY, S)) (by rfl) ?_
      obtain ⟨hin10, hf⟩ := aGdE hf
      refine aIald hC hT rfl (by decide) (by rfl) hin10 ?_
      have e9 := Option.some.inj hf; subst e9
      exact aRetI hC hT hF rfl rfl
    · have hf := aIfT hf hc9
      refine aRun_ok hC hT 3 (cf' := (77, [(4, .int (v2 - v2 / (3 : Int32) * (3 : Int32))), (3, .int s0), (0, .ref 42), (2, .int v2)], [.int s0, .ref 51], LAY, S)) (by rfl) ?_
      obtain ⟨hin11, hf⟩ := aGdE hf
      refine aIald hC hT rfl (by decide) (by rfl) hin11 ?_
      refine aRun_ok hC hT 1 (cf' := (87, [(4, .int (v2 - v2 / (3 : Int32) * (3 : Int32))), (3, .int s0), (0, .ref 42), (2, .int v2)], [.int ((S.2.2 51) s0.toNatClampNeg)], LAY, S)) (by rfl) ?_
      have e9 := Option.some.inj hf; subst e9
      exact aRetI hC hT hF rfl rfl
  · have hf := aIfT hf hc8
    refine aRun_ok hC hT 3 (cf' := (62, [(4, .int (v2 - v2 / (3 : Int32) * (3 : Int32))), (3, .int s0), (0, .ref 42), (2, .int v2)], [.int s0, .ref 50], LAY, S)) (by rfl) ?_
    obtain ⟨hin12, hf⟩ := aGdE hf
    refine aIald hC hT rfl (by decide) (by rfl) hin12 ?_
    refine aRun_ok hC hT 1 (cf' := (87, [(4, .int (v2 - v2 / (3 : Int32) * (3 : Int32))), (3, .int s0), (0, .ref 42), (2, .int v2)], [.int ((S.2.2 50) s0.toNatClampNeg)], LAY, S)) (by rfl) ?_
    have e9 := Option.some.inj hf; subst e9
    exact aRetI hC hT hF rfl rfl
def X11_pair_42 (N : Nat) (a1 : Int32) (a2 : Int32) (S : aSt) : Option (Int32 × aSt) := (aLet (X11_in (a2.toInt64) (0 : Int64) (5 : Int64)) (fun w1 => (if w1 = (0 : Int32) then some ((((-3) : Int32), S)) else (Option.bind (X11_layTwo_42 N a1 S) (fun w4 => (if (w4.1 42 28) = ((-1) : Int32) then some ((((-1) : Int32), w4)) else (if (3 : Int32) ≤ a2 then (X11_pair_42_b46 N a2 (w4.1 42 29) w4) else (X11_pair_42_b46 N a2 (w4.1 42 28) w4))))))))
set_option maxHeartbeats 4000000 in
set_option maxRecDepth 100000 in
theorem J_X11_pair_42 (l : Launch) (g : aWg) (N : Nat) (a1 : Int32) (a2 : Int32) (S : aSt) {r : Int32 × aSt} (hf : X11_pair_42 N a1 a2 S = (some r)) : aJ l g yX11_pair M_X11_pair [.ref 42, .int a1, .int a2] LAY S (some (.int r.1)) LAY r.2 0 0 := by
  refine aJ_of (by decide +kernel) rfl (Nat.le_of_ble_eq_true rfl) (fun h => nomatch h) ?_
  intro C hg hl hC hz hF
  subst hg; subst hl
  have hT := ok_X11_pair
  unfold X11_pair_42 at hf
  show aX C M_X11_pair 0 0 (0, [(0, .ref 42), (1, .int a1), (2, .int a2)], [], LAY, S)
  refine aRun_ok hC hT 4 (cf' := (6, [(0, .ref 42), (1, .int a1), (2, .int a2)], [.long (5 : Int64), .long (0 : Int64), .long (a2.toInt64)], LAY, S)) (by rfl) ?_
  obtain ⟨w1, ew2, hf⟩ := aLetE hf
  refine aCallS (As := [.long (a2.toInt64), .long (0 : Int64), .long (5 : Int64)]) (rest := []) hC hT rfl k_X11_pair_70.1 _ k_X11_pair_70.2 (by rfl) (Nat.le_of_ble_eq_true rfl) (by decide) (J_X11_in C.2.2.1 C.1 (a2.toInt64) (0 : Int64) (5 : Int64) S ew2) ?_
  refine aIf_ne hC hT (tgt := 15) rfl (by decide) (fun hc3 => ?_) (fun hc3 => ?_)
  · have hf := aIfF hf hc3
    refine aRun_ok hC hT 2 (cf' := (17, [(0, .ref 42), (1, .int a1), (2, .int a2)], [.int a1, .ref 42], LAY, S)) (by rfl) ?_
    obtain ⟨w4, ew5, hf⟩ := aBnE hf
    refine aCallV (b := 42) (As := [.int a1]) (rest := []) hC hT rfl k_X11_pair_254.1 _ _ k_X11_pair_254.2 (by decide) (by rfl) (by rfl) (by rfl) (Nat.le_of_ble_eq_true rfl) (by decide) (J_X11_layTwo_42 C.2.2.1 C.1 N a1 S ew5) ?_
    refine aRun_ok hC hT 3 (cf' := (25, [(0, .ref 42), (1, .int a1), (2, .int a2)], [.int ((-1) : Int32), .int (w4.1 42 28)], LAY, w4)) (by rfl) ?_
    refine aCmp_ne hC hT (tgt := 30) rfl (by decide) (fun hc6 => ?_) (fun hc6 => ?_)
    · have hf := aIfF hf hc6
      refine aRun_ok hC hT 2 (cf' := (32, [(0, .ref 42), (1, .int a1), (2, .int a2)], [.int (3 : Int32), .int a2], LAY, w4)) (by rfl) ?_
      refine aCmp_ge hC hT (tgt := 42) rfl (by decide) (fun hc7 => ?_) (fun hc7 => ?_)
      · have hf := aIfT hf hc7
        refine aRun_ok hC hT 2 (cf' := (46, [(0, .ref 42), (1, .int a1), (2, .int a2)], [.int (w4.1 42 29)], LAY, w4)) (by rfl) ?_
        refine aLocs [0, 2] (lv' := [(0, .ref 42), (2, .int a2)]) rfl ?_
        exact X11_pair_42_b46_ok hC hF a2 (w4.1 42 29) w4 hf
      · have hf := aIfF hf hc7
        refine aRun_ok hC hT 3 (cf' := (46, [(0, .ref 42), (1, .int a1), (2, .int a2)], [.int (w4.1 42 28)], LAY, w4)) (by rfl) ?_
        refine aLocs [0, 2] (lv' := [(0, .ref 42), (2, .int a2)]) rfl ?_
        exact X11_pair_42_b46_ok hC hF a2 (w4.1 42 28) w4 hf
    · have hf := aIfT hf hc6
      refine aRun_ok hC hT 1 (cf' := (29, [(0, .ref 42), (1, .int a1), (2, .int a2)], [.int ((-1) : Int32)], LAY, w4)) (by rfl) ?_
      have e9 := Option.some.inj hf; subst e9
      exact aRetI hC hT hF rfl rfl
  · have hf := aIfT hf hc3
    refine aRun_ok hC hT 1 (cf' := (14, [(0, .ref 42), (1, .int a1), (2, .int a2)], [.int ((-3) : Int32)], LAY, S)) (by rfl) ?_
    have e9 := Option.some.inj hf; subst e9
    exact aRetI hC hT hF rfl rfl
