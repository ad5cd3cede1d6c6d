def X11_isWord_42_b64 (N : Nat) (S : aSt) (rec22 : Int32 → Int32 → Int32 → Int32 → Option (Int32)) (v1 : Int32) (v2 : Int32) (v4 : Int32) (s0 : Int32) : Option (Int32) := (rec22 v1 v2 s0 (v4 + (1 : Int32)))
set_option maxHeartbeats 4000000 in
set_option maxRecDepth 100000 in
theorem X11_isWord_42_b64_ok {C : aC} {N : Nat} {S : aSt} {rec22 : Int32 → Int32 → Int32 → Int32 → Option (Int32)} (hC : aCx C M_X11_isWord) {r : Int32} (hF : aFin C (some (.int r)) LAY S 0 0) (hrec22 : ∀ (v1 : Int32) (v2 : Int32) (v3 : Int32) (v4 : Int32), rec22 v1 v2 v3 v4 = (some r) → aX C M_X11_isWord 0 0 (22, [(0, .ref 42), (1, .int v1), (2, .int v2), (3, .int v3), (4, .int v4)], [], LAY, S)) (v1 : Int32) (v2 : Int32) (v4 : Int32) (s0 : Int32) (hf : X11_isWord_42_b64 N S rec22 v1 v2 v4 s0 = (some r)) : aX C M_X11_isWord 0 0 (64, [(0, .ref 42), (1, .int v1), (2, .int v2), (4, .int v4)], [.int s0], LAY, S) := by
  have hT := ok_X11_isWord
  unfold X11_isWord_42_b64 at hf
  refine aRun_ok hC hT 3 (cf' := (22, [(4, .int (v4 + (1 : Int32))), (3, .int s0), (0, .ref 42), (1, .int v1), (2, .int v2)], [], LAY, S)) (by rfl) ?_
  refine aLocs [2, 3, 4, 1, 0] (lv' := [(0, .ref 42), (1, .int v1), (2, .int v2), (3, .int s0), (4, .int (v4 + (1 : Int32)))]) rfl ?_
  exact hrec22 v1 v2 s0 (v4 + (1 : Int32)) hf
def X11_isWord_42_b22 (N : Nat) (S : aSt) (rec22 : Int32 → Int32 → Int32 → Int32 → Option (Int32)) (v1 : Int32) (v2 : Int32) (v3 : Int32) (v4 : Int32) : Option (Int32) := (if v3 = (0 : Int32) then (if v3 = 0 ∨ v3 = 1 then some (v3) else none) else (if v2 ≤ v4 then (if v3 = 0 ∨ v3 = 1 then some (v3) else none) else (if aIx ((S.1 42 16) + v4) 200 = true then (if ((S.2.2 43) ((S.1 42 16) + v4).toNatClampNeg) = ((96 : Int32) + ((v1 >>> (((5 : Int32) * v4) &&& 31)) &&& (31 : Int32))) then (X11_isWord_42_b64 N S rec22 v1 v2 v4 (1 : Int32)) else (X11_isWord_42_b64 N S rec22 v1 v2 v4 (0 : Int32))) else none)))
set_option maxHeartbeats 4000000 in
set_option maxRecDepth 100000 in
theorem X11_isWord_42_b22_ok {C : aC} {N : Nat} {S : aSt} {rec22 : Int32 → Int32 → Int32 → Int32 → Option (Int32)} (hC : aCx C M_X11_isWord) {r : Int32} (hF : aFin C (some (.int r)) LAY S 0 0) (hrec22 : ∀ (v1 : Int32) (v2 : Int32) (v3 : Int32) (v4 : Int32), rec22 v1 v2 v3 v4 = (some r) → aX C M_X11_isWord 0 0 (22, [(0, .ref 42), (1, .int v1), (2, .int v2), (3, .int v3), (4, .int v4)], [], LAY, S)) (v1 : Int32) (v2 : Int32) (v3 : Int32) (v4 : Int32) (hf : X11_isWord_42_b22 N S rec22 v1 v2 v3 v4 = (some r)) : aX C M_X11_isWord 0 0 (22, [(0, .ref 42), (1, .int v1), (2, .int v2), (3, .int v3), (4, .int v4)], [], LAY, S) := by
  have hT := ok_X11_isWord
  unfold X11_isWord_42_b22 at hf
  refine aRun_ok hC hT 1 (cf' := (23, [(0, .ref 42), (1, .int v1), (2, .int v2), (3, .int v3), (4, .int v4)], [.int v3], LAY, S)) (by rfl) ?_
  refine aIf_eq hC hT (tgt := 71) rfl (by decide) (fun hc2 => ?_) (fun hc2 => ?_)
  · have hf := aIfT hf hc2
    refine aRun_ok hC hT 1 (cf' := (72, [(0, .ref 42), (1, .int v1), (2, .int v2), (3, .int v3), (4, .int v4)], [.int v3], LAY, S)) (by rfl) ?_
    obtain ⟨hb3, hf⟩ := aGdE hf
    have e9 := Option.some.inj hf; subst e9
    exact aRetB hC hT hF rfl hb3 rfl
  · have hf := aIfF hf hc2
    refine aRun_ok hC hT 2 (cf' := (29, [(0, .ref 42), (1, .int v1), (2, .int v2), (3, .int v3), (4, .int v4)], [.int v2, .int v4], LAY, S)) (by rfl) ?_
    refine aCmp_ge hC hT (tgt := 71) rfl (by decide) (fun hc4 => ?_) (fun hc4 => ?_)
    · have hf := aIfT hf hc4
      refine aRun_ok hC hT 1 (cf' := (72, [(0, .ref 42), (1, .int v1), (2, .int v2), (3, .int v3), (4, .int v4)], [.int v3], LAY, S)) (by rfl) ?_
      obtain ⟨hb5, hf⟩ := aGdE hf
      have e9 := Option.some.inj hf; subst e9
      exact aRetB hC hT hF rfl hb5 rfl
    · have hf := aIfF hf hc4
      refine aRun_ok hC hT 6 (cf' := (43, [(0, .ref 42), (1, .int v1), (2, .int v2), (3, .int v3), (4, .int v4)], [.int ((S.1 42 16) + v4), .ref 43], LAY, S)) (by rfl) ?_
      obtain ⟨hin6, hf⟩ := aGdE hf
      refine aIald hC hT rfl (by decide) (by rfl) hin6 ?_
      refine aRun_ok hC hT 9 (cf' := (56, [(0, .ref 42), (1, .int v1), (2, .int v2), (3, .int v3), (4, .int v4)], [.int ((96 : Int32) + ((v1 >>> (((5 : Int32) * v4) &&& 31)) &&& (31 : Int32))), .int ((S.2.2 43) ((S.1 42 16) + v4).toNatClampNeg)], LAY, S)) (by rfl) ?_
      refine aCmp_ne hC hT (tgt := 63) rfl (by decide) (fun hc7 => ?_) (fun hc7 => ?_)
      · have hf := aIfF hf hc7
        refine aRun_ok hC hT 1 (cf' := (64, [(0, .ref 42), (1, .int v1), (2, .int v2), (3, .int v3), (4, .int v4)], [.int (0 : Int32)], LAY, S)) (by rfl) ?_
        refine aLocs [0, 1, 2, 4] (lv' := [(0, .ref 42), (1, .int v1), (2, .int v2), (4, .int v4)]) rfl ?_
        exact X11_isWord_42_b64_ok hC hF hrec22 v1 v2 v4 (0 : Int32) hf
      · have hf := aIfT hf hc7
        refine aRun_ok hC hT 2 (cf' := (64, [(0, .ref 42), (1, .int v1), (2, .int v2), (3, .int v3), (4, .int v4)], [.int (1 : Int32)], LAY, S)) (by rfl) ?_
        refine aLocs [0, 1, 2, 4] (lv' := [(0, .ref 42), (1, .int v1), (2, .int v2), (4, .int v4)]) rfl ?_
        exact X11_isWord_42_b64_ok hC hF hrec22 v1 v2 v4 (1 : Int32) hf
def X11_isWord_42_l22 (N : Nat) (S : aSt) : Nat → Int32 → Int32 → Int32 → Int32 → Option (Int32)
  | 0 => fun _ _ _ _ => none
  | n + 1 => X11_isWord_42_b22 N S (X11_isWord_42_l22 N S n)
theorem X11_isWord_42_l22_ok {C : aC} {N : Nat} {S : aSt} (hC : aCx C M_X11_isWord) {r : Int32} (hF : aFin C (some (.int r)) LAY S 0 0) : ∀ (n : Nat) (v1 : Int32) (v2 : Int32) (v3 : Int32) (v4 : Int32), X11_isWord_42_l22 N S n v1 v2 v3 v4 = (some r) → aX C M_X11_isWord 0 0 (22, [(0, .ref 42), (1, .int v1), (2, .int v2), (3, .int v3), (4, .int v4)], [], LAY, S)
  | 0, _, _, _, _,  h => nomatch (show (none : Option (Int32)) = some _ from h)
  | n + 1, v1, v2, v3, v4,  h => X11_isWord_42_b22_ok hC hF (fun v1 v2 v3 v4 h => X11_isWord_42_l22_ok hC hF n v1 v2 v3 v4 h) v1 v2 v3 v4 h
def X11_isWord_42_b18 (N : Nat) (S : aSt) (v1 : Int32) (v2 : Int32) (s0 : Int32) : Option (Int32) := (X11_isWord_42_l22 N S N v1 v2 s0 (0 : Int32))
set_option maxHeartbeats 4000000 in
set_option maxRecDepth 100000 in
theorem X11_isWord_42_b18_ok {C : aC} {N : Nat} {S : aSt} (hC : aCx C M_X11_isWord) {r : Int32} (hF : aFin C (some (.int r)) LAY S 0 0) (v1 : Int32) (v2 : Int32) (s0 : Int32) (hf : X11_isWord_42_b18 N S v1 v2 s0 = (some r)) : aX C M_X11_isWord 0 0 (18, [(0, .ref 42), (1, .int v1), (2, .int v2)], [.int s0], LAY, S) := by
  have hT := ok_X11_isWord
  unfold X11_isWord_42_b18 at hf
  refine aRun_ok hC hT 3 (cf' := (22, [(4, .int (0 : Int32)), (3, .int s0), (0, .ref 42), (1, .int v1), (2, .int v2)], [], LAY, S)) (by rfl) ?_
  refine aLocs [2, 3, 4, 1, 0] (lv' := [(0, .ref 42), (1, .int v1), (2, .int v2), (3, .int s0), (4, .int (0 : Int32))]) rfl ?_
  exact X11_isWord_42_l22_ok hC hF N v1 v2 s0 (0 : Int32) hf
def X11_isWord_42 (N : Nat) (a1 : Int32) (a2 : Int32) (S : aSt) : Option (Int32) := (if ((S.1 42 17) - (S.1 42 16)) = a2 then (X11_isWord_42_b18 N S a1 a2 (1 : Int32)) else (X11_isWord_42_b18 N S a1 a2 (0 : Int32)))
set_option maxHeartbeats 4000000 in
set_option maxRecDepth 100000 in
theorem J_X11_isWord_42 (l : Launch) (g : aWg) (N : Nat) (a1 : Int32) (a2 : Int32) (S : aSt) {r : Int32} (hf : X11_isWord_42 N a1 a2 S = (some r)) : aJ l g yX11_isWord M_X11_isWord [.ref 42, .int a1, .int a2] LAY S (some (.int r)) LAY S 0 0 := by
  refine aJ_of (by decide +kernel) rfl (Nat.le_of_ble_eq_true rfl) (fun h => nomatch h) ?_
  intro C hg hl hC hz hF
  subst hg; subst hl
  have hT := ok_X11_isWord
  unfold X11_isWord_42 at hf
  show aX C M_X11_isWord 0 0 (0, [(0, .ref 42), (1, .int a1), (2, .int a2)], [], LAY, S)
  refine aRun_ok hC hT 6 (cf' := (10, [(0, .ref 42), (1, .int a1), (2, .int a2)], [.int a2, .int ((S.1 42 17) - (S.1 42 16))], LAY, S)) (by rfl) ?_
  refine aCmp_ne hC hT (tgt := 17) rfl (by decide) (fun hc1 => ?_) (fun hc1 => ?_)
  · have hf := aIfF hf hc1
    refine aRun_ok hC hT 1 (cf' := (18, [(0, .ref 42), (1, .int a1), (2, .int a2)], [.int (0 : Int32)], LAY, S)) (by rfl) ?_
    exact X11_isWord_42_b18_ok hC hF a1 a2 (0 : Int32) hf
  · have hf := aIfT hf hc1
    refine aRun_ok hC hT 2 (cf' := (18, [(0, .ref 42), (1, .int a1), (2, .int a2)], [.int (1 : Int32)], LAY, S)) (by rfl) ?_
    exact X11_isWord_42_b18_ok hC hF a1 a2 (1 : Int32) hf
def X11_isNumber_42 (N : Nat) (S : aSt) : Option (Int32) := (if (S.1 42 1) ≤ (S.1 42 16) then some ((0 : Int32)) else (if aIx (S.1 42 16) 200 = true then (aLet (X11_sort ((S.2.2 43) (S.1 42 16).toNatClampNeg)) (fun w3 => (if w3 = (2 : Int32) then (if (6 : Int32) < ((S.1 42 17) - (S.1 42 16)) then some ((0 : Int32)) else some ((1 : Int32))) else some ((0 : Int32))))) else none))
set_option maxHeartbeats 4000000 in
set_option maxRecDepth 100000 in
theorem J_X11_isNumber_42 (l : Launch) (g : aWg) (N : Nat) (S : aSt) {r : Int32} (hf : X11_isNumber_42 N S = (some r)) : aJ l g yX11_isNumber M_X11_isNumber [.ref 42] LAY S (some (.int r)) LAY S 0 0 := by
  refine aJ_of (by decide +kernel) rfl (Nat.le_of_ble_eq_true rfl) (fun h => nomatch h) ?_
  intro C hg hl hC hz hF
  subst hg; subst hl
  have hT := ok_X11_isNumber
  unfold X11_isNumber_42 at hf
  show aX C M_X11_isNumber 0 0 (0, [(0, .ref 42)], [], LAY, S)
  refine aRun_ok hC hT 4 (cf' := (8, [(0, .ref 42)], [.int (S.1 42 1), .int (S.1 42 16)], LAY, S)) (by rfl) ?_
  refine aCmp_ge hC hT (tgt := 45) rfl (by decide) (fun hc1 => ?_) (fun hc1 => ?_)
  · have hf := aIfT hf hc1
    refine aRun_ok hC hT 1 (cf' := (46, [(0, .ref 42)], [.int (0 : Int32)], LAY, S)) (by rfl) ?_
    have e9 := Option.some.inj hf; subst e9
    exact aRetB hC hT hF rfl (Or.inl rfl) rfl
  · have hf := aIfF hf hc1
    refine aRun_ok hC hT 4 (cf' := (19, [(0, .ref 42)], [.int (S.1 42 16), .ref 43], LAY, S)) (by rfl) ?_
    obtain ⟨hin2, hf⟩ := aGdE hf
    refine aIald hC hT rfl (by decide) (by rfl) hin2 ?_
    obtain ⟨w3, ew4, hf⟩ := aLetE hf
    refine aCallS (As := [.int ((S.2.2 43) (S.1 42 16).toNatClampNeg)]) (rest := []) hC hT rfl k_X11_isNumber_85.1 _ k_X11_isNumber_85.2 (by rfl) (Nat.le_of_ble_eq_true rfl) (by decide) (J_X11_sort C.2.2.1 C.1 ((S.2.2 43) (S.1 42 16).toNatClampNeg) S ew4) ?_
    refine aRun_ok hC hT 1 (cf' := (24, [(0, .ref 42)], [.int (2 : Int32), .int w3], LAY, S)) (by rfl) ?_
    refine aCmp_ne hC hT (tgt := 45) rfl (by decide) (fun hc5 => ?_) (fun hc5 => ?_)
    · have hf := aIfF hf hc5
      refine aRun_ok hC hT 1 (cf' := (46, [(0, .ref 42)], [.int (0 : Int32)], LAY, S)) (by rfl) ?_
      have e9 := Option.some.inj hf; subst e9
      exact aRetB hC hT hF rfl (Or.inl rfl) rfl
    · have hf := aIfT hf hc5
      refine aRun_ok hC hT 6 (cf' := (38, [(0, .ref 42)], [.int (6 : Int32), .int ((S.1 42 17) - (S.1 42 16))], LAY, S)) (by rfl) ?_
      refine aCmp_gt hC hT (tgt := 45) rfl (by decide) (fun hc6 => ?_) (fun hc6 => ?_)
      · have hf := aIfT hf hc6
        refine aRun_ok hC hT 1 (cf' := (46, [(0, .ref 42)], [.int (0 : Int32)], LAY, S)) (by rfl) ?_
        have e9 := Option.some.inj hf; subst e9
        exact aRetB hC hT hF rfl (Or.inl rfl) rfl
      · have hf := aIfF hf hc6
        refine aRun_ok hC hT 2 (cf' := (46, [(0, .ref 42)], [.int (1 : Int32)], LAY, S)) (by rfl) ?_
        have e9 := Option.some.inj hf; subst e9
        exact aRetB hC hT hF rfl (Or.inr rfl) rfl
def X11_value_42_b7 (N : Nat) (S : aSt) (rec7 : Int32 → Int32 → Option (Int32)) (v1 : Int32) (v2 : Int32) : Option (Int32) := (if (S.1 42 17) ≤ v2 then some (v1) else (if aIx v2 200 = true then (rec7 ((((10 : Int32) * v1) + ((S.2.2 43) v2.toNatClampNeg)) - (48 : Int32)) (v2 + (1 : Int32))) else none))
set_option maxHeartbeats 4000000 in
set_option maxRecDepth 100000 in
theorem X11_value_42_b7_ok {C : aC} {N : Nat} {S : aSt} {rec7 : Int32 → Int32 → Option (Int32)} (hC : aCx C M_X11_value) {r : Int32} (hF : aFin C (some (.int r)) LAY S 0 0) (hrec7 : ∀ (v1 : Int32) (v2 : Int32), rec7 v1 v2 = (some r) → aX C M_X11_value 0 0 (7, [(0, .ref 42), (1, .int v1), (2, .int v2)], [], LAY, S)) (v1 : Int32) (v2 : Int32) (hf : X11_value_42_b7 N S rec7 v1 v2 = (some r)) : aX C M_X11_value 0 0 (7, [(0, .ref 42), (1, .int v1), (2, .int v2)], [], LAY, S) := by
  have hT := ok_X11_value
  unfold X11_value_42_b7 at hf
  refine aRun_ok hC hT 3 (cf' := (12, [(0, .ref 42), (1, .int v1), (2, .int v2)], [.int (S.1 42 17), .int v2], LAY, S)) (by rfl) ?_
  refine aCmp_ge hC hT (tgt := 36) rfl (by decide) (fun hc1 => ?_) (fun hc1 => ?_)
  · have hf := aIfT hf hc1
    refine aRun_ok hC hT 1 (cf' := (37, [(0, .ref 42), (1, .int v1), (2, .int v2)], [.int v1], LAY, S)) (by rfl) ?_
    have e9 := Option.some.inj hf; subst e9
    exact aRetI hC hT hF rfl rfl
  · have hf := aIfF hf hc1
    refine aRun_ok hC hT 6 (cf' := (24, [(0, .ref 42), (1, .int v1), (2, .int v2)], [.int v2, .ref 43, .int ((10 : Int32) * v1)], LAY, S)) (by rfl) ?_
    obtain ⟨hin2, hf⟩ := aGdE hf
    refine aIald hC hT rfl (by decide) (by rfl) hin2 ?_
    refine aRun_ok hC hT 6 (cf' := (7, [(2, .int (v2 + (1 : Int32))), (1, .int ((((10 : Int32) * v1) + ((S.2.2 43) v2.toNatClampNeg)) - (48 : Int32))), (0, .ref 42)], [], LAY, S)) (by rfl) ?_
    refine aLocs [2, 1, 0] (lv' := [(0, .ref 42), (1, .int ((((10 : Int32) * v1) + ((S.2.2 43) v2.toNatClampNeg)) - (48 : Int32))), (2, .int (v2 + (1 : Int32)))]) rfl ?_
    exact hrec7 ((((10 : Int32) * v1) + ((S.2.2 43) v2.toNatClampNeg)) - (48 : Int32)) (v2 + (1 : Int32)) hf
def X11_value_42_l7 (N : Nat) (S : aSt) : Nat → Int32 → Int32 → Option (Int32)
  | 0 => fun _ _ => none
  | n + 1 => X11_value_42_b7 N S (X11_value_42_l7 N S n)
theorem X11_value_42_l7_ok {C : aC} {N : Nat} {S : aSt} (hC : aCx C M_X11_value) {r : Int32} (hF : aFin C (some (.int r)) LAY S 0 0) : ∀ (n : Nat) (v1 : Int32) (v2 : Int32), X11_value_42_l7 N S n v1 v2 = (some r) → aX C M_X11_value 0 0 (7, [(0, .ref 42), (1, .int v1), (2, .int v2)], [], LAY, S)
  | 0, _, _,  h => nomatch (show (none : Option (Int32)) = some _ from h)
  | n + 1, v1, v2,  h => X11_value_42_b7_ok hC hF (fun v1 v2 h => X11_value_42_l7_ok hC hF n v1 v2 h) v1 v2 h
def X11_value_42 (N : Nat) (S : aSt) : Option (Int32) := (X11_value_42_l7 N S N (0 : Int32) (S.1 42 16))
set_option maxHeartbeats 4000000 in
set_option maxRecDepth 100000 in
theorem J_X11_value_42 (l : Launch) (g : aWg) (N : Nat) (S : aSt) {r : Int32} (hf : X11_value_42 N S = (some r)) : aJ l g yX11_value M_X11_value [.ref 42] LAY S (some (.int r)) LAY S 0 0 := by
  refine aJ_of (by decide +kernel) rfl (Nat.le_of_ble_eq_true rfl) (fun h => nomatch h) ?_
  intro C hg hl hC hz hF
  subst hg; subst hl
  have hT := ok_X11_value
  unfold X11_value_42 at hf
  show aX C M_X11_value 0 0 (0, [(0, .ref 42)], [], LAY, S)
  refine aRun_ok hC hT 5 (cf' := (7, [(2, .int (S.1 42 16)), (1, .int (0 : Int32)), (0, .ref 42)], [], LAY, S)) (by rfl) ?_
  refine aLocs [2, 1, 0] (lv' := [(0, .ref 42), (1, .int (0 : Int32)), (2, .int (S.1 42 16))]) rfl ?_
  exact X11_value_42_l7_ok hC hF N (0 : Int32) (S.1 42 16) hf
def X11_in (a0 : Int64) (a2 : Int64) (a4 : Int64) : Int32 := (if (lg_cmp a0 a2) < (0 : Int32) then (0 : Int32) else (if (0 : Int32) < (lg_cmp a0 a4) then (0 : Int32) else (1 : Int32)))
set_option maxHeartbeats 4000000 in
set_option maxRecDepth 100000 in
theorem J_X11_in (l : Launch) (g : aWg) (a0 : Int64) (a2 : Int64) (a4 : Int64) (S : aSt) {r : Int32} (hf : X11_in a0 a2 a4 = r) : aJ l g yX11_in M_X11_in [.long a0, .long a2, .long a4] LAY S (some (.int r)) LAY S 0 0 := by
  refine aJ_of (by decide +kernel) rfl (Nat.le_of_ble_eq_true rfl) (fun h => nomatch h) ?_
  intro C hg hl hC hz hF
  subst hg; subst hl
  have hT := ok_X11_in
  unfold X11_in at hf
  show aX C M_X11_in 0 0 (0, [(0, .long a0), (2, .long a2), (4, .long a4)], [], LAY, S)
  refine aRun_ok hC hT 3 (cf' := (3, [(0, .long a0), (2, .long a2), (4, .long a4)], [.int (lg_cmp a0 a2)], LAY, S)) (by rfl) ?_
  refine aIf_lt hC hT (tgt := 17) rfl (by decide) (fun hc1 => ?_) (fun hc1 => ?_)
  · have hf := aIfT hf hc1
    refine aRun_ok hC hT 1 (cf' := (18, [(0, .long a0), (2, .long a2), (4, .long a4)], [.int (0 : Int32)], LAY, S)) (by rfl) ?_
    subst hf
    exact aRetB hC hT hF rfl (Or.inl rfl) rfl
  · have hf := aIfF hf hc1
    refine aRun_ok hC hT 3 (cf' := (10, [(0, .long a0), (2, .long a2), (4, .long a4)], [.int (lg_cmp a0 a4)], LAY, S)) (by rfl) ?_
    refine aIf_gt hC hT (tgt := 17) rfl (by decide) (fun hc2 => ?_) (fun hc2 => ?_)
    · have hf := aIfT hf hc2
      refine aRun_ok hC hT 1 (cf' := (18, [(0, .long a0), (2, .long a2), (4, .long a4)], [.int (0 : Int32)], LAY, S)) (by rfl) ?_
      subst hf
      exact aRetB hC hT hF rfl (Or.inl rfl) rfl
    · have hf := aIfF hf hc2
      refine aRun_ok hC hT 2 (cf' := (18, [(0, .long a0), (2, .long a2), (4, .long a4)], [.int (1 : Int32)], LAY, S)) (by rfl) ?_
      subst hf
      exact aRetB hC hT hF rfl (Or.inr rfl) rfl
def X11_reads_42 (N : Nat) (a1 : Int32) (a2 : Int32) (a3 : Int32) (S : aSt) : Option (Int32 × aSt) := (Option.bind (X11_isNumber_42 N S) (fun w1 => (if w1 = (0 : Int32) then some (((0 : Int32), S)) else (Option.bind (X11_value_42 N S) (fun w4 => (aLet (X11_in (w4.toInt64) (a2.toInt64) (a3.toInt64)) (fun w6 => (if w6 = (0 : Int32) then some (((0 : Int32), S)) else (Option.bind (X11_value_42 N S) (fun w9 => (if aIx ((((5 : Int32) * (S.1 42 3)) + (1 : Int32)) + a1) 50 = true then (Option.bind (X11_token_42 N (aA S 44 (upd (S.2.2 44) ((((5 : Int32) * (S.1 42 3)) + (1 : Int32)) + a1).toNatClampNeg w9))) (fun w12 => some (((1 : Int32), w12)))) else none)))))))))))
set_option maxHeartbeats 4000000 in
set_option maxRecDepth 100000 in
theorem J_X11_reads_42 (l : Launch) (g : aWg) (N : Nat) (a1 : Int32) (a2 : Int32) (a3 : Int32) (S : aSt) {r : Int32 × aSt} (hf : X11_reads_42 N a1 a2 a3 S = (some r)) : aJ l g yX11_reads M_X11_reads [.ref 42, .int a1, .int a2, .int a3] LAY S (some (.int r.1)) LAY r.2 0 0 := by
  refine aJ_of (by decide +kernel) rfl (Nat.le_of_ble_eq_true rfl) (fun h => nomatch h) ?_
  intro C hg hl hC hz hF
  subst hg; subst hl
  have hT := ok_X11_reads
  unfold X11_reads_42 at hf
  show aX C M_X11_reads 0 0 (0, [(0, .ref 42), (1, .int a1), (2, .int a2), (3, .int a3)], [], LAY, S)
  refine aRun_ok hC hT 1 (cf' := (1, [(0, .ref 42), (1, .int a1), (2, .int a2), (3, .int a3)], [.ref 42], LAY, S)) (by rfl) ?_
  obtain ⟨w1, ew2, hf⟩ := aBnE hf
  refine aCallV (b := 42) (As := []) (rest := []) hC hT rfl k_X11_reads_92.1 _ _ k_X11_reads_92.2 (by decide) (by rfl) (by rfl) (by rfl) (Nat.le_of_ble_eq_true rfl) (by decide) (J_X11_isNumber_42 C.2.2.1 C.1 N  S ew2) ?_
  refine aIf_eq hC hT (tgt := 22) rfl (by decide) (fun hc3 => ?_) (fun hc3 => ?_)
  · have hf := aIfT hf hc3
    refine aRun_ok hC hT 1 (cf' := (23, [(0, .ref 42), (1, .int a1), (2, .int a2), (3, .int a3)], [.int (0 : Int32)], LAY, S)) (by rfl) ?_
    have e9 := Option.some.inj hf; subst e9
    exact aRetB hC hT hF rfl (Or.inl rfl) rfl
  · have hf := aIfF hf hc3
    refine aRun_ok hC hT 1 (cf' := (8, [(0, .ref 42), (1, .int a1), (2, .int a2), (3, .int a3)], [.ref 42], LAY, S)) (by rfl) ?_
    obtain ⟨w4, ew5, hf⟩ := aBnE hf
    refine aCallV (b := 42) (As := []) (rest := []) hC hT rfl k_X11_reads_96.1 _ _ k_X11_reads_96.2 (by decide) (by rfl) (by rfl) (by rfl) (Nat.le_of_ble_eq_true rfl) (by decide) (J_X11_value_42 C.2.2.1 C.1 N  S ew5) ?_
    refine aRun_ok hC hT 5 (cf' := (16, [(0, .ref 42), (1, .int a1), (2, .int a2), (3, .int a3)], [.long (a3.toInt64), .long (a2.toInt64), .long (w4.toInt64)], LAY, S)) (by rfl) ?_
    obtain ⟨w6, ew7, hf⟩ := aLetE hf
    refine aCallS (As := [.long (w4.toInt64), .long (a2.toInt64), .long (a3.toInt64)]) (rest := []) hC hT rfl k_X11_reads_70.1 _ k_X11_reads_70.2 (by rfl) (Nat.le_of_ble_eq_true rfl) (by decide) (J_X11_in C.2.2.1 C.1 (w4.toInt64) (a2.toInt64) (a3.toInt64) S ew7) ?_
    refine aIf_ne hC hT (tgt := 24) rfl (by decide) (fun hc8 => ?_) (fun hc8 => ?_)
    · have hf := aIfF hf hc8
      refine aRun_ok hC hT 11 (cf' := (39, [(0, .ref 42), (1, .int a1), (2, .int a2), (3, .int a3)], [.ref 42, .int ((((5 : Int32) * (S.1 42 3)) + (1 : Int32)) + a1), .ref 44], LAY, S)) (by rfl) ?_
      obtain ⟨w9, ew10, hf⟩ := aBnE hf
      refine aCallV (b := 42) (As := []) (rest := [.int ((((5 : Int32) * (S.1 42 3)) + (1 : Int32)) + a1), .ref 44]) hC hT rfl k_X11_reads_96.1 _ _ k_X11_reads_96.2 (by decide) (by rfl) (by rfl) (by rfl) (Nat.le_of_ble_eq_true rfl) (by decide) (J_X11_value_42 C.2.2.1 C.1 N  S ew10) ?_
      obtain ⟨hin11, hf⟩ := aGdE hf
      refine aIast hC hT rfl (by decide) (by rfl) hin11 ?_
      refine aRun_ok hC hT 1 (cf' := (44, [(0, .ref 42), (1, .int a1), (2, .int a2), (3, .int a3)], [.ref 42], LAY, (aA S 44 (upd (S.2.2 44) ((((5 : Int32) * (S.1 42 3)) + (1 : Int32)) + a1).toNatClampNeg w9)))) (by rfl) ?_
      obtain ⟨w12, ew13, hf⟩ := aBnE hf
      refine aCallV (b := 42) (As := []) (rest := []) hC hT rfl k_X11_reads_103.1 _ _ k_X11_reads_103.2 (by decide) (by rfl) (by rfl) (by rfl) (Nat.le_of_ble_eq_true rfl) (by decide) (J_X11_token_42 C.2.2.1 C.1 N  (aA S 44 (upd (S.2.2 44) ((((5 : Int32) * (S.1 42 3)) + (1 : Int32)) + a1).toNatClampNeg w9)) ew13) ?_
      refine aRun_ok hC hT 1 (cf' := (48, [(0, .ref 42), (1, .int a1), (2, .int a2), (3, .int a3)], [.int (1 : Int32)], LAY, w12)) (by rfl) ?_
      have e9 := Option.some.inj hf; subst e9
      exact aRetB hC hT hF rfl (Or.inr rfl) rfl
    · have hf := aIfT hf hc8
      refine aRun_ok hC hT 1 (cf' := (23, [(0, .ref 42), (1, .int a1), (2, .int a2), (3, .int a3)], [.int (0 : Int32)], LAY, S)) (by rfl) ?_
      have e9 := Option.some.inj hf; subst e9
      exact aRetB hC hT hF rfl (Or.inl rfl) rfl
def X11_readsPage_42_b69 (N : Nat) (v1 : Int32) (s0 : Int32) (s1 : Int32) (S : aSt) : Option (Int32 × aSt) := (if aIx s1 50 = true then (if aIx (v1 + (2 : Int32)) 50 = true then (if ((upd (S.2.2 44) s1.toNatClampNeg s0) (v1 + (2 : Int32)).toNatClampNeg) = ((-1) : Int32) then some (((0 : Int32), (aA S 44 (upd (S.2.2 44) s1.toNatClampNeg s0)))) else (Option.bind (X11_token_42 N (aA S 44 (upd (S.2.2 44) s1.toNatClampNeg s0))) (fun w16 => (if aIx (v1 + (2 : Int32)) 50 = true then (if ((w16.2.2 44) (v1 + (2 : Int32)).toNatClampNeg) = (2 : Int32) then some (((1 : Int32), w16)) else (Option.bind (X11_reads_42 N (2 : Int32) (0 : Int32) (999999 : Int32) w16) (fun w20 => (if w20.1 = (0 : Int32) then some (((0 : Int32), w20.2)) else some (((1 : Int32), w20.2)))))) else none)))) else none) else none)
set_option maxHeartbeats 4000000 in
set_option maxRecDepth 100000 in
theorem X11_readsPage_42_b69_ok {C : aC} {N : Nat} (hC : aCx C M_X11_readsPage) {r : Int32 × aSt} (hF : aFin C (some (.int r.1)) LAY r.2 0 0) (v1 : Int32) (s0 : Int32) (s1 : Int32) (S : aSt) (hf : X11_readsPage_42_b69 N v1 s0 s1 S = (some r)) : aX C M_X11_readsPage 0 0 (69, [(0, .ref 42), (1, .int v1)], [.int s0, .int s1, .ref 44], LAY, S) := by
  have hT := ok_X11_readsPage
  unfold X11_readsPage_42_b69 at hf
  obtain ⟨hin13, hf⟩ := aGdE hf
  refine aIast hC hT rfl (by decide) (by rfl) hin13 ?_
  refine aRun_ok hC hT 5 (cf' := (77, [(0, .ref 42), (1, .int v1)], [.int (v1 + (2 : Int32)), .ref 44], LAY, (aA S 44 (upd (S.2.2 44) s1.toNatClampNeg s0)))) (by rfl) ?_
  obtain ⟨hin14, hf⟩ := aGdE hf
  refine aIald hC hT rfl (by decide) (by rfl) hin14 ?_
  refine aRun_ok hC hT 1 (cf' := (79, [(0, .ref 42), (1, .int v1)], [.int ((-1) : Int32), .int ((upd (S.2.2 44) s1.toNatClampNeg s0) (v1 + (2 : Int32)).toNatClampNeg)], LAY, (aA S 44 (upd (S.2.2 44) s1.toNatClampNeg s0)))) (by rfl) ?_
  refine aCmp_ne hC hT (tgt := 84) rfl (by decide) (fun hc15 => ?_) (fun hc15 => ?_)
  · have hf := aIfF hf hc15
    refine aRun_ok hC hT 1 (cf' := (85, [(0, .ref 42), (1, .int v1)], [.ref 42], LAY, (aA S 44 (upd (S.2.2 44) s1.toNatClampNeg s0)))) (by rfl) ?_
    obtain ⟨w16, ew17, hf⟩ := aBnE hf
    refine aCallV (b := 42) (As := []) (rest := []) hC hT rfl k_X11_readsPage_103.1 _ _ k_X11_readsPage_103.2 (by decide) (by rfl) (by rfl) (by rfl) (Nat.le_of_ble_eq_true rfl) (by decide) (J_X11_token_42 C.2.2.1 C.1 N  (aA S 44 (upd (S.2.2 44) s1.toNatClampNeg s0)) ew17) ?_
    refine aRun_ok hC hT 5 (cf' := (95, [(0, .ref 42), (1, .int v1)], [.int (v1 + (2 : Int32)), .ref 44], LAY, w16)) (by rfl) ?_
    obtain ⟨hin18, hf⟩ := aGdE hf
    refine aIald hC hT rfl (by decide) (by rfl) hin18 ?_
    refine aRun_ok hC hT 1 (cf' := (97, [(0, .ref 42), (1, .int v1)], [.int (2 : Int32), .int ((w16.2.2 44) (v1 + (2 : Int32)).toNatClampNeg)], LAY, w16)) (by rfl) ?_
    refine aCmp_eq hC hT (tgt := 111) rfl (by decide) (fun hc19 => ?_) (fun hc19 => ?_)
    · have hf := aIfT hf hc19
      refine aRun_ok hC hT 2 (cf' := (116, [(0, .ref 42), (1, .int v1)], [.int (1 : Int32)], LAY, w16)) (by rfl) ?_
      have e9 := Option.some.inj hf; subst e9
      exact aRetB hC hT hF rfl (Or.inr rfl) rfl
    · have hf := aIfF hf hc19
      refine aRun_ok hC hT 4 (cf' := (105, [(0, .ref 42), (1, .int v1)], [.int (999999 : Int32), .int (0 : Int32), .int (2 : Int32), .ref 42], LAY, w16)) (by rfl) ?_
      obtain ⟨w20, ew21, hf⟩ := aBnE hf
      refine aCallV (b := 42) (As := [.int (2 : Int32), .int (0 : Int32), .int (999999 : Int32)]) (rest := []) hC hT rfl k_X11_readsPage_106.1 _ _ k_X11_readsPage_106.2 (by decide) (by rfl) (by rfl) (by rfl) (Nat.le_of_ble_eq_true rfl) (by decide) (J_X11_reads_42 C.2.2.1 C.1 N (2 : Int32) (0 : Int32) (999999 : Int32) w16 ew21) ?_
      refine aIf_eq hC hT (tgt := 115) rfl (by decide) (fun hc22 => ?_) (fun hc22 => ?_)
      · have hf := aIfT hf hc22
        refine aRun_ok hC hT 1 (cf' := (116, [(0, .ref 42), (1, .int v1)], [.int (0 : Int32)], LAY, w20.2)) (by rfl) ?_
        have e9 := Option.some.inj hf; subst e9
        exact aRetB hC hT hF rfl (Or.inl rfl) rfl
      · have hf := aIfF hf hc22
        refine aRun_ok hC hT 2 (cf' := (116, [(0, .ref 42), (1, .int v1)], [.int (1 : Int32)], LAY, w20.2)) (by rfl) ?_
        have e9 := Option.some.inj hf; subst e9
        exact aRetB hC hT hF rfl (Or.inr rfl) rfl
  · have hf := aIfT hf hc15
    refine aRun_ok hC hT 1 (cf' := (83, [(0, .ref 42), (1, .int v1)], [.int (0 : Int32)], LAY, (aA S 44 (upd (S.2.2 44) s1.toNatClampNeg s0)))) (by rfl) ?_
    have e9 := Option.some.inj hf; subst e9
    exact aRetB hC hT hF rfl (Or.inl rfl) rfl
def X11_readsPage_42 (N : Nat) (S : aSt) : Option (Int32 × aSt) := (Option.bind (X11_reads_42 N (0 : Int32) (0 : Int32) (5 : Int32) S) (fun w1 => (if w1.1 = (0 : Int32) then some (((0 : Int32), w1.2)) else (Option.bind (X11_isWord_42 N (661676 : Int32) (4 : Int32) w1.2) (fun w4 => (if w4 = (0 : Int32) then (Option.bind (X11_isWord_42 N (21241138 : Int32) (5 : Int32) w1.2) (fun w7 => (if w7 = (0 : Int32) then (Option.bind (X11_isWord_42 N (169542 : Int32) (4 : Int32) w1.2) (fun w10 => (if w10 = (0 : Int32) then (X11_readsPage_42_b69 N ((5 : Int32) * (w1.2.1 42 3)) ((-1) : Int32) (((5 : Int32) * (w1.2.1 42 3)) + (2 : Int32)) w1.2) else (X11_readsPage_42_b69 N ((5 : Int32) * (w1.2.1 42 3)) (2 : Int32) (((5 : Int32) * (w1.2.1 42 3)) + (2 : Int32)) w1.2)))) else (X11_readsPage_42_b69 N ((5 : Int32) * (w1.2.1 42 3)) (1 : Int32) (((5 : Int32) * (w1.2.1 42 3)) + (2 : Int32)) w1.2)))) else (X11_readsPage_42_b69 N ((5 : Int32) * (w1.2.1 42 3)) (0 : Int32) (((5 : Int32) * (w1.2.1 42 3)) + (2 : Int32)) w1.2)))))))
set_option maxHeartbeats 4000000 in
set_option maxRecDepth 100000 in
theorem J_X11_readsPage_42 (l : Launch) (g : aWg) (N : Nat) (S : aSt) {r : Int32 × aSt} (hf : X11_readsPage_42 N S = (some r)) : aJ l g yX11_readsPage M_X11_readsPage [.ref 42] LAY S (some (.int r.1)) LAY r.2 0 0 := by
  refine aJ_of (by decide +kernel) rfl (Nat.le_of_ble_eq_true rfl) (fun h => nomatch h) ?_
  intro C hg hl hC hz hF
  subst hg; subst hl
  have hT := ok_X11_readsPage
  unfold X11_readsPage_42 at hf
  show aX C M_X11_readsPage 0 0 (0, [(0, .ref 42)], [], LAY, S)
  refine aRun_ok hC hT 4 (cf' := (4, [(0, .ref 42)], [.int (5 : Int32), .int (0 : Int32), .int (0 : Int32), .ref 42], LAY, S)) (by rfl) ?_
  obtain ⟨w1, ew2, hf⟩ := aBnE hf
  refine aCallV (b := 42) (As := [.int (0 : Int32), .int (0 : Int32), .int (5 : Int32)]) (rest := []) hC hT rfl k_X11_readsPage_106.1 _ _ k_X11_readsPage_106.2 (by decide) (by rfl) (by rfl) (by rfl) (Nat.le_of_ble_eq_true rfl) (by decide) (J_X11_reads_42 C.2.2.1 C.1 N (0 : Int32) (0 : Int32) (5 : Int32) S ew2) ?_
  refine aIf_ne hC hT (tgt := 12) rfl (by decide) (fun hc3 => ?_) (fun hc3 => ?_)
  · have hf := aIfF hf hc3
    refine aRun_ok hC hT 13 (cf' := (30, [(1, .int ((5 : Int32) * (w1.2.1 42 3))), (0, .ref 42)], [.int (4 : Int32), .int (661676 : Int32), .ref 42, .int (((5 : Int32) * (w1.2.1 42 3)) + (2 : Int32)), .ref 44], LAY, w1.2)) (by rfl) ?_
    obtain ⟨w4, ew5, hf⟩ := aBnE hf
    refine aCallV (b := 42) (As := [.int (661676 : Int32), .int (4 : Int32)]) (rest := [.int (((5 : Int32) * (w1.2.1 42 3)) + (2 : Int32)), .ref 44]) hC hT rfl k_X11_readsPage_110.1 _ _ k_X11_readsPage_110.2 (by decide) (by rfl) (by rfl) (by rfl) (Nat.le_of_ble_eq_true rfl) (by decide) (J_X11_isWord_42 C.2.2.1 C.1 N (661676 : Int32) (4 : Int32) w1.2 ew5) ?_
    refine aIf_eq hC hT (tgt := 40) rfl (by decide) (fun hc6 => ?_) (fun hc6 => ?_)
    · have hf := aIfT hf hc6
      refine aRun_ok hC hT 3 (cf' := (44, [(1, .int ((5 : Int32) * (w1.2.1 42 3))), (0, .ref 42)], [.int (5 : Int32), .int (21241138 : Int32), .ref 42, .int (((5 : Int32) * (w1.2.1 42 3)) + (2 : Int32)), .ref 44], LAY, w1.2)) (by rfl) ?_
      obtain ⟨w7, ew8, hf⟩ := aBnE hf
      refine aCallV (b := 42) (As := [.int (21241138 : Int32), .int (5 : Int32)]) (rest := [.int (((5 : Int32) * (w1.2.1 42 3)) + (2 : Int32)), .ref 44]) hC hT rfl k_X11_readsPage_110.1 _ _ k_X11_readsPage_110.2 (by decide) (by rfl) (by rfl) (by rfl) (Nat.le_of_ble_eq_true rfl) (by decide) (J_X11_isWord_42 C.2.2.1 C.1 N (21241138 : Int32) (5 : Int32) w1.2 ew8) ?_
      refine aIf_eq hC hT (tgt := 54) rfl (by decide) (fun hc9 => ?_) (fun hc9 => ?_)
      · have hf := aIfT hf hc9
        refine aRun_ok hC hT 3 (cf' := (58, [(1, .int ((5 : Int32) * (w1.2.1 42 3))), (0, .ref 42)], [.int (4 : Int32), .int (169542 : Int32), .ref 42, .int (((5 : Int32) * (w1.2.1 42 3)) + (2 : Int32)), .ref 44], LAY, w1.2)) (by rfl) ?_
        obtain ⟨w10, ew11, hf⟩ := aBnE hf
        refine aCallV (b := 42) (As := [.int (169542 : Int32), .int (4 : Int32)]) (rest := [.int (((5 : Int32) * (w1.2.1 42 3)) + (2 : Int32)), .ref 44]) hC hT rfl k_X11_readsPage_110.1 _ _ k_X11_readsPage_110.2 (by decide) (by rfl) (by rfl) (by rfl) (Nat.le_of_ble_eq_true rfl) (by decide) (J_X11_isWord_42 C.2.2.1 C.1 N (169542 : Int32) (4 : Int32) w1.2 ew11) ?_
        refine aIf_eq hC hT (tgt := 68) rfl (by decide) (fun hc12 => ?_) (fun hc12 => ?_)
        · have hf := aIfT hf hc12
          refine aRun_ok hC hT 1 (cf' := (69, [(1, .int ((5 : Int32) * (w1.2.1 42 3))), (0, .ref 42)], [.int ((-1) : Int32), .int (((5 : Int32) * (w1.2.1 42 3)) + (2 : Int32)), .ref 44], LAY, w1.2)) (by rfl) ?_
          refine aLocs [1, 0] (lv' := [(0, .ref 42), (1, .int ((5 : Int32) * (w1.2.1 42 3)))]) rfl ?_
          exact X11_readsPage_42_b69_ok hC hF ((5 : Int32) * (w1.2.1 42 3)) ((-1) : Int32) (((5 : Int32) * (w1.2.1 42 3)) + (2 : Int32)) w1.2 hf
        · have hf := aIfF hf hc12
          refine aRun_ok hC hT 2 (cf' := (69, [(1, .int ((5 : Int32) * (w1.2.1 42 3))), (0, .ref 42)], [.int (2 : Int32), .int (((5 : Int32) * (w1.2.1 42 3)) + (2 : Int32)), .ref 44], LAY, w1.2)) (by rfl) ?_
          refine aLocs [1, 0] (lv' := [(0, .ref 42), (1, .int ((5 : Int32) * (w1.2.1 42 3)))]) rfl ?_
          exact X11_readsPage_42_b69_ok hC hF ((5 : Int32) * (w1.2.1 42 3)) (2 : Int32) (((5 : Int32) * (w1.2.1 42 3)) + (2 : Int32)) w1.2 hf
      · have hf := aIfF hf hc9
        refine aRun_ok hC hT 2 (cf' := (69, [(1, .int ((5 : Int32) * (w1.2.1 42 3))), (0, .ref 42)], [.int (1 : Int32), .int (((5 : Int32) * (w1.2.1 42 3)) + (2 : Int32)), .ref 44], LAY, w1.2)) (by rfl) ?_
        refine aLocs [1, 0] (lv' := [(0, .ref 42), (1, .int ((5 : Int32) * (w1.2.1 42 3)))]) rfl ?_
        exact X11_readsPage_42_b69_ok hC hF ((5 : Int32) * (w1.2.1 42 3)) (1 : Int32) (((5 : Int32) * (w1.2.1 42 3)) + (2 : Int32)) w1.2 hf
    · have hf := aIfF hf hc6
      refine aRun_ok hC hT 2 (cf' := (69, [(1, .int ((5 : Int32) * (w1.2.1 42 3))), (0, .ref 42)], [.int (0 : Int32), .int (((5 : Int32) * (w1.2.1 42 3)) + (2 : Int32)), .ref 44], LAY, w1.2)) (by rfl) ?_
      refine aLocs [1, 0] (lv' := [(0, .ref 42), (1, .int ((5 : Int32) * (w1.2.1 42 3)))]) rfl ?_
      exact X11_readsPage_42_b69_ok hC hF ((5 : Int32) * (w1.2.1 42 3)) (0 : Int32) (((5 : Int32) * (w1.2.1 42 3)) + (2 : Int32)) w1.2 hf
  · have hf := aIfT hf hc3
    refine aRun_ok hC hT 1 (cf' := (11, [(0, .ref 42)], [.int (0 : Int32)], LAY, w1.2)) (by rfl) ?_
    have e9 := Option.some.inj hf; subst e9
    exact aRetB hC hT hF rfl (Or.inl rfl) rfl
def X11_readsRest_42_b171 (N : Nat) (S : aSt) : Option (Int32 × aSt) := (Option.bind (X11_reads_42 N (1 : Int32) (0 : Int32) (9 : Int32) S) (fun w48 => (if w48.1 = (0 : Int32) then some (((0 : Int32), w48.2)) else (Option.bind (X11_reads_42 N (2 : Int32) (0 : Int32) (99 : Int32) w48.2) (fun w51 => (if w51.1 = (0 : Int32) then some (((0 : Int32), w51.2)) else some (((1 : Int32), w51.2))))))))
set_option maxHeartbeats 4000000 in
set_option maxRecDepth 100000 in
theorem X11_readsRest_42_b171_ok {C : aC} {N : Nat} (hC : aCx C M_X11_readsRest) {r : Int32 × aSt} (hF : aFin C (some (.int r.1)) LAY r.2 0 0) (S : aSt) (hf : X11_readsRest_42_b171 N S = (some r)) : aX C M_X11_readsRest 0 0 (171, [(0, .ref 42)], [], LAY, S) := by
  have hT := ok_X11_readsRest
  unfold X11_readsRest_42_b171 at hf
  refine aRun_ok hC hT 4 (cf' := (176, [(0, .ref 42)], [.int (9 : Int32), .int (0 : Int32), .int (1 : Int32), .ref 42], LAY, S)) (by rfl) ?_
  obtain ⟨w48, ew49, hf⟩ := aBnE hf
  refine aCallV (b := 42) (As := [.int (1 : Int32), .int (0 : Int32), .int (9 : Int32)]) (rest := []) hC hT rfl k_X11_readsRest_106.1 _ _ k_X11_readsRest_106.2 (by decide) (by rfl) (by rfl) (by rfl) (Nat.le_of_ble_eq_true rfl) (by decide) (J_X11_reads_42 C.2.2.1 C.1 N (1 : Int32) (0 : Int32) (9 : Int32) S ew49) ?_
  refine aIf_eq hC hT (tgt := 197) rfl (by decide) (fun hc50 => ?_) (fun hc50 => ?_)
  · have hf := aIfT hf hc50
    refine aRun_ok hC hT 1 (cf' := (198, [(0, .ref 42)], [.int (0 : Int32)], LAY, w48.2)) (by rfl) ?_
    have e9 := Option.some.inj hf; subst e9
    exact aRetB hC hT hF rfl (Or.inl rfl) rfl
  · have hf := aIfF hf hc50
    refine aRun_ok hC hT 4 (cf' := (187, [(0, .ref 42)], [.int (99 : Int32), .int (0 : Int32), .int (2 : Int32), .ref 42], LAY, w48.2)) (by rfl) ?_
    obtain ⟨w51, ew52, hf⟩ := aBnE hf
    refine aCallV (b := 42) (As := [.int (2 : Int32), .int (0 : Int32), .int (99 : Int32)]) (rest := []) hC hT rfl k_X11_readsRest_106.1 _ _ k_X11_readsRest_106.2 (by decide) (by rfl) (by rfl) (by rfl) (Nat.le_of_ble_eq_true rfl) (by decide) (J_X11_reads_42 C.2.2.1 C.1 N (2 : Int32) (0 : Int32) (99 : Int32) w48.2 ew52) ?_
    refine aIf_eq hC hT (tgt := 197) rfl (by decide) (fun hc53 => ?_) (fun hc53 => ?_)
    · have hf := aIfT hf hc53
      refine aRun_ok hC hT 1 (cf' := (198, [(0, .ref 42)], [.int (0 : Int32)], LAY, w51.2)) (by rfl) ?_
      have e9 := Option.some.inj hf; subst e9
      exact aRetB hC hT hF rfl (Or.inl rfl) rfl
    · have hf := aIfF hf hc53
      refine aRun_ok hC hT 2 (cf' := (198, [(0, .ref 42)], [.int (1 : Int32)], LAY, w51.2)) (by rfl) ?_
      have e9 := Option.some.inj hf; subst e9
      exact aRetB hC hT hF rfl (Or.inr rfl) rfl
def X11_readsRest_42 (N : Nat) (a1 : Int32) (S : aSt) : Option (Int32 × aSt) := (if a1.toInt < 0 ∨ 7 < a1.toInt then (Option.bind (X11_reads_42 N (0 : Int32) (0 : Int32) (99 : Int32) S) (fun w2 => (if w2.1 = 0 ∨ w2.1 = 1 then some ((w2.1, w2.2)) else none))) else (if a1 = (0 : Int32) then (Option.bind (X11_reads_42 N (0 : Int32) (1 : Int32) (999999 : Int32) S) (fun w6 => (if w6.1 = (0 : Int32) then some (((0 : Int32), w6.2)) else (Option.bind (X11_reads_42 N (1 : Int32) (0 : Int32) (7 : Int32) w6.2) (fun w9 => (if w9.1 = (0 : Int32) then some (((0 : Int32), w9.2)) else (Option.bind (X11_reads_42 N (2 : Int32) (0 : Int32) (3 : Int32) w9.2) (fun w12 => (if w12.1 = (0 : Int32) then some (((0 : Int32), w12.2)) else (Option.bind (X11_reads_42 N (3 : Int32) (0 : Int32) (5 : Int32) w12.2) (fun w15 => (if w15.1 = (0 : Int32) then some (((0 : Int32), w15.2)) else some (((1 : Int32), w15.2)))))))))))))) else (if a1 = (1 : Int32) then (Option.bind (X11_reads_42 N (0 : Int32) (1 : Int32) (999999 : Int32) S) (fun w19 => (if w19.1 = (0 : Int32) then some (((0 : Int32), w19.2)) else (Option.bind (X11_reads_42 N (1 : Int32) (0 : Int32) (7 : Int32) w19.2) (fun w22 => (if w22.1 = (0 : Int32) then some (((0 : Int32), w22.2)) else (Option.bind (X11_reads_42 N (2 : Int32) (0 : Int32) (3 : Int32) w22.2) (fun w25 => (if w25.1 = (0 : Int32) then some (((0 : Int32), w25.2)) else (Option.bind (X11_reads_42 N (3 : Int32) (0 : Int32) (5 : Int32) w25.2) (fun w28 => (if w28.1 = (0 : Int32) then some (((0 : Int32), w28.2)) else some (((1 : Int32), w28.2)))))))))))))) else (if a1 = (2 : Int32) then (Option.bind (X11_reads_42 N (0 : Int32) (0 : Int32) (3 : Int32) S) (fun w32 => (if w32.1 = (0 : Int32) then some (((0 : Int32), w32.2)) else (Option.bind (X11_reads_42 N (1 : Int32) (0 : Int32) (4 : Int32) w32.2) (fun w35 => (if w35.1 = (0 : Int32) then some (((0 : Int32), w35.2)) else (Option.bind (X11_reads_42 N (2 : Int32) (0 : Int32) (99 : Int32) w35.2) (fun w38 => (if w38.1 = (0 : Int32) then some (((0 : Int32), w38.2)) else some (((1 : Int32), w38.2))))))))))) else (if a1 = (3 : Int32) then (Option.bind (X11_reads_42 N (0 : Int32) (0 : Int32) (9 : Int32) S) (fun w42 => (if w42.1 = (0 : Int32) then some (((0 : Int32), w42.2)) else (Option.bind (X11_isNumber_42 N w42.2) (fun w45 => (if w45 = (0 : Int32) then (X11_readsRest_42_b171 N w42.2) else (Option.bind (X11_value_42 N w42.2) (fun w54 => (if aIx (((5 : Int32) * (w42.2.1 42 3)) + (1 : Int32)) 50 = true then (if w54 = ((w42.2.2.2 44) (((5 : Int32) * (w42.2.1 42 3)) + (1 : Int32)).toNatClampNeg) then some (((0 : Int32), w42.2)) else (X11_readsRest_42_b171 N w42.2)) else none))))))))) else (if a1 = (4 : Int32) then (Option.bind (X11_reads_42 N (0 : Int32) (0 : Int32) (99 : Int32) S) (fun w59 => (if w59.1 = 0 ∨ w59.1 = 1 then some ((w59.1, w59.2)) else none))) else (if a1 = (5 : Int32) then (Option.bind (X11_reads_42 N (0 : Int32) (0 : Int32) (99 : Int32) S) (fun w63 => (if w63.1 = 0 ∨ w63.1 = 1 then some ((w63.1, w63.2)) else none))) else (if a1 = (6 : Int32) then (Option.bind (X11_reads_42 N (0 : Int32) (0 : Int32) (99 : Int32) S) (fun w67 => (if w67.1 = 0 ∨ w67.1 = 1 then some ((w67.1, w67.2)) else none))) else (if a1 = (7 : Int32) then (Option.bind (X11_readsPage_42 N S) (fun w71 => (if w71.1 = 0 ∨ w71.1 = 1 then some ((w71.1, w71.2)) else none))) else none)))))))))
set_option maxHeartbeats 4000000 in
set_option maxRecDepth 100000 in
theorem J_X11_readsRest_42 (l : Launch) (g : aWg) (N : Nat) (a1 : Int32) (S : aSt) {r : Int32 × aSt} (hf : X11_readsRest_42 N a1 S = (some r)) : aJ l g yX11_readsRest M_X11_readsRest [.ref 42, .int a1] LAY S (some (.int r.1)) LAY r.2 0 0 := by
  refine aJ_of (by decide +kernel) rfl (Nat.le_of_ble_eq_true rfl) (fun h => nomatch h) ?_
  intro C hg hl hC hz hF
  subst hg; subst hl
  have hT := ok_X11_readsRest
  unfold X11_readsRest_42 at hf
  show aX C M_X11_readsRest 0 0 (0, [(0, .ref 42), (1, .int a1)], [], LAY, S)
  refine aRun_ok hC hT 1 (cf' := (1, [(0, .ref 42), (1, .int a1)], [.int a1], LAY, S)) (by rfl) ?_
  rcases aTswE hf with ⟨hc1, hf⟩ | ⟨hc1, hf⟩
  · refine aTswD hC hT (tgt := 204) rfl hc1 (by decide) ?_
    refine aRun_ok hC hT 4 (cf' := (209, [(0, .ref 42), (1, .int a1)], [.int (99 : Int32), .int (0 : Int32), .int (0 : Int32), .ref 42], LAY, S)) (by rfl) ?_
    obtain ⟨w2, ew3, hf⟩ := aBnE hf
    refine aCallV (b := 42) (As := [.int (0 : Int32), .int (0 : Int32), .int (99 : Int32)]) (rest := []) hC hT rfl k_X11_readsRest_106.1 _ _ k_X11_readsRest_106.2 (by decide) (by rfl) (by rfl) (by rfl) (Nat.le_of_ble_eq_true rfl) (by decide) (J_X11_reads_42 C.2.2.1 C.1 N (0 : Int32) (0 : Int32) (99 : Int32) S ew3) ?_
    obtain ⟨hb4, hf⟩ := aGdE hf
    have e9 := Option.some.inj hf; subst e9
    exact aRetB hC hT hF rfl hb4 rfl
  · rcases aIfE hf with ⟨hc5, hf⟩ | ⟨-, hf⟩
    · refine aTsw hC hT (off := 47) (tgt := 48) rfl (0 : Int32) hc5 (by decide) (by decide) (by rfl) (by decide) ?_
      refine aRun_ok hC hT 4 (cf' := (53, [(0, .ref 42), (1, .int a1)], [.int (999999 : Int32), .int (1 : Int32), .int (0 : Int32), .ref 42], LAY, S)) (by rfl) ?_
      obtain ⟨w6, ew7, hf⟩ := aBnE hf
      refine aCallV (b := 42) (As := [.int (0 : Int32), .int (1 : Int32), .int (999999 : Int32)]) (rest := []) hC hT rfl k_X11_readsRest_106.1 _ _ k_X11_readsRest_106.2 (by decide) (by rfl) (by rfl) (by rfl) (Nat.le_of_ble_eq_true rfl) (by decide) (J_X11_reads_42 C.2.2.1 C.1 N (0 : Int32) (1 : Int32) (999999 : Int32) S ew7) ?_
      refine aIf_eq hC hT (tgt := 94) rfl (by decide) (fun hc8 => ?_) (fun hc8 => ?_)
      · have hf := aIfT hf hc8
        refine aRun_ok hC hT 1 (cf' := (95, [(0, .ref 42), (1, .int a1)], [.int (0 : Int32)], LAY, w6.2)) (by rfl) ?_
        have e9 := Option.some.inj hf; subst e9
        exact aRetB hC hT hF rfl (Or.inl rfl) rfl
      · have hf := aIfF hf hc8
        refine aRun_ok hC hT 4 (cf' := (64, [(0, .ref 42), (1, .int a1)], [.int (7 : Int32), .int (0 : Int32), .int (1 : Int32), .ref 42], LAY, w6.2)) (by rfl) ?_
        obtain ⟨w9, ew10, hf⟩ := aBnE hf
        refine aCallV (b := 42) (As := [.int (1 : Int32), .int (0 : Int32), .int (7 : Int32)]) (rest := []) hC hT rfl k_X11_readsRest_106.1 _ _ k_X11_readsRest_106.2 (by decide) (by rfl) (by rfl) (by rfl) (Nat.le_of_ble_eq_true rfl) (by decide) (J_X11_reads_42 C.2.2.1 C.1 N (1 : Int32) (0 : Int32) (7 : Int32) w6.2 ew10) ?_
        refine aIf_eq hC hT (tgt := 94) rfl (by decide) (fun hc11 => ?_) (fun hc11 => ?_)
        · have hf := aIfT hf hc11
          refine aRun_ok hC hT 1 (cf' := (95, [(0, .ref 42), (1, .int a1)], [.int (0 : Int32)], LAY, w9.2)) (by rfl) ?_
          have e9 := Option.some.inj hf; subst e9
          exact aRetB hC hT hF rfl (Or.inl rfl) rfl
        · have hf := aIfF hf hc11
          refine aRun_ok hC hT 4 (cf' := (74, [(0, .ref 42), (1, .int a1)], [.int (3 : Int32), .int (0 : Int32), .int (2 : Int32), .ref 42], LAY, w9.2)) (by rfl) ?_
          obtain ⟨w12, ew13, hf⟩ := aBnE hf
          refine aCallV (b := 42) (As := [.int (2 : Int32), .int (0 : Int32), .int (3 : Int32)]) (rest := []) hC hT rfl k_X11_readsRest_106.1 _ _ k_X11_readsRest_106.2 (by decide) (by rfl) (by rfl) (by rfl) (Nat.le_of_ble_eq_true rfl) (by decide) (J_X11_reads_42 C.2.2.1 C.1 N (2 : Int32) (0 : Int32) (3 : Int32) w9.2 ew13) ?_
          refine aIf_eq hC hT (tgt := 94) rfl (by decide) (fun hc14 => ?_) (fun hc14 => ?_)
          · have hf := aIfT hf hc14
            refine aRun_ok hC hT 1 (cf' := (95, [(0, .ref 42), (1, .int a1)], [.int (0 : Int32)], LAY, w12.2)) (by rfl) ?_
            have e9 := Option.some.inj hf; subst e9
            exact aRetB hC hT hF rfl (Or.inl rfl) rfl
          · have hf := aIfF hf hc14
            refine aRun_ok hC hT 4 (cf' := (84, [(0, .ref 42), (1, .int a1)], [.int (5 : Int32), .int (0 : Int32), .int (3 : Int32), .ref 42], LAY, w12.2)) (by rfl) ?_
            obtain ⟨w15, ew16, hf⟩ := aBnE hf
            refine aCallV (b := 42) (As := [.int (3 : Int32), .int (0 : Int32), .int (5 : Int32)]) (rest := []) hC hT rfl k_X11_readsRest_106.1 _ _ k_X11_readsRest_106.2 (by decide) (by rfl) (by rfl) (by rfl) (Nat.le_of_ble_eq_true rfl) (by decide) (J_X11_reads_42 C.2.2.1 C.1 N (3 : Int32) (0 : Int32) (5 : Int32) w12.2 ew16) ?_
            refine aIf_eq hC hT (tgt := 94) rfl (by decide) (fun hc17 => ?_) (fun hc17 => ?_)
            · have hf := aIfT hf hc17
              refine aRun_ok hC hT 1 (cf' := (95, [(0, .ref 42), (1, .int a1)], [.int (0 : Int32)], LAY, w15.2)) (by rfl) ?_
              have e9 := Option.some.inj hf; subst e9
              exact aRetB hC hT hF rfl (Or.inl rfl) rfl
            · have hf := aIfF hf hc17
              refine aRun_ok hC hT 2 (cf' := (95, [(0, .ref 42), (1, .int a1)], [.int (1 : Int32)], LAY, w15.2)) (by rfl) ?_
              have e9 := Option.some.inj hf; subst e9
              exact aRetB hC hT hF rfl (Or.inr rfl) rfl
    · rcases aIfE hf with ⟨hc18, hf⟩ | ⟨-, hf⟩
      · refine aTsw hC hT (off := 47) (tgt := 48) rfl (1 : Int32) hc18 (by decide) (by decide) (by rfl) (by decide) ?_
        refine aRun_ok hC hT 4 (cf' := (53, [(0, .ref 42), (1, .int a1)], [.int (999999 : Int32), .int (1 : Int32), .int (0 : Int32), .ref 42], LAY, S)) (by rfl) ?_
        obtain ⟨w19, ew20, hf⟩ := aBnE hf
        refine aCallV (b := 42) (As := [.int (0 : Int32), .int (1 : Int32), .int (999999 : Int32)]) (rest := []) hC hT rfl k_X11_readsRest_106.1 _ _ k_X11_readsRest_106.2 (by decide) (by rfl) (by rfl) (by rfl) (Nat.le_of_ble_eq_true rfl) (by decide) (J_X11_reads_42 C.2.2.1 C.1 N (0 : Int32) (1 : Int32) (999999 : Int32) S ew20) ?_
        refine aIf_eq hC hT (tgt := 94) rfl (by decide) (fun hc21 => ?_) (fun hc21 => ?_)
        · have hf := aIfT hf hc21
          refine aRun_ok hC hT 1 (cf' := (95, [(0, .ref 42), (1, .int a1)], [.int (0 : Int32)], LAY, w19.2)) (by rfl) ?_
          have e9 := Option.some.inj hf; subst e9
          exact aRetB hC hT hF rfl (Or.inl rfl) rfl
        · have hf := aIfF hf hc21
          refine aRun_ok hC hT 4 (cf' := (64, [(0, .ref 42), (1, .int a1)], [.int (7 : Int32), .int (0 : Int32), .int (1 : Int32), .ref 42], LAY, w19.2)) (by rfl) ?_
          obtain ⟨w22, ew23, hf⟩ := aBnE hf
          refine aCallV (b := 42) (As := [.int (1 : Int32), .int (0 : Int32), .int (7 : Int32)]) (rest := []) hC hT rfl k_X11_readsRest_106.1 _ _ k_X11_readsRest_106.2 (by decide) (by rfl) (by rfl) (by rfl) (Nat.le_of_ble_eq_true rfl) (by decide) (J_X11_reads_42 C.2.2.1 C.1 N (1 : Int32) (0 : Int32) (7 : Int32) w19.2 ew23) ?_
          refine aIf_eq hC hT (tgt := 94) rfl (by decide) (fun hc24 => ?_) (fun hc24 => ?_)
          · have hf := aIfT hf hc24
            refine aRun_ok hC hT 1 (cf' := (95, [(0, .ref 42), (1, .int a1)], [.int (0 : Int32)], LAY, w22.2)) (by rfl) ?_
            have e9 := Option.some.inj hf; subst e9
            exact aRetB hC hT hF rfl (Or.inl rfl) rfl
          · have hf := aIfF hf hc24
            refine aRun_ok hC hT 4 (cf' := (74, [(0, .ref 42), (1, .int a1)], [.int (3 : Int32), .int (0 : Int32), .int (2 : Int32), .ref 42], LAY, w22.2)) (by rfl) ?_
            obtain ⟨w25, ew26, hf⟩ := aBnE hf
            refine aCallV (b := 42) (As := [.int (2 : Int32), .int (0 : Int32), .int (3 : Int32)]) (rest := []) hC hT rfl k_X11_readsRest_106.1 _ _ k_X11_readsRest_106.2 (by decide) (by rfl) (by rfl) (by rfl) (Nat.le_of_ble_eq_true rfl) (by decide) (J_X11_reads_42 C.2.2.1 C.1 N (2 : Int32) (0 : Int32) (3 : Int32) w22.2 ew26) ?_
            refine aIf_eq hC hT (tgt := 94) rfl (by decide) (fun hc27 => ?_) (fun hc27 => ?_)
            · have hf := aIfT hf hc27
              refine aRun_ok hC hT 1 (cf' := (95, [(0, .ref 42), (1, .int a1)], [.int (0 : Int32)], LAY, w25.2)) (by rfl) ?_
              have e9 := Option.some.inj hf; subst e9
              exact aRetB hC hT hF rfl (Or.inl rfl) rfl
            · have hf := aIfF hf hc27
              refine aRun_ok hC hT 4 (cf' := (84, [(0, .ref 42), (1, .int a1)], [.int (5 : Int32), .int (0 : Int32), .int (3 : Int32), .ref 42], LAY, w25.2)) (by rfl) ?_
              obtain ⟨w28, ew29, hf⟩ := aBnE hf
              refine aCallV (b := 42) (As := [.int (3 : Int32), .int (0 : Int32), .int (5 : Int32)]) (rest := []) hC hT rfl k_X11_readsRest_106.1 _ _ k_X11_readsRest_106.2 (by decide) (by rfl) (by rfl) (by rfl) (Nat.le_of_ble_eq_true rfl) (by decide) (J_X11_reads_42 C.2.2.1 C.1 N (3 : Int32) (0 : Int32) (5 : Int32) w25.2 ew29) ?_
              refine aIf_eq hC hT (tgt := 94) rfl (by decide) (fun hc30 => ?_) (fun hc30 => ?_)
              · have hf := aIfT hf hc30
                refine aRun_ok hC hT 1 (cf' := (95, [(0, .ref 42), (1, .int a1)], [.int (0 : Int32)], LAY, w28.2)) (by rfl) ?_
                have e9 := Option.some.inj hf; subst e9
                exact aRetB hC hT hF rfl (Or.inl rfl) rfl
              · have hf := aIfF hf hc30
                refine aRun_ok hC hT 2 (cf' := (95, [(0, .ref 42), (1, .int a1)], [.int (1 : Int32)], LAY, w28.2)) (by rfl) ?_
                have e9 := Option.some.inj hf; subst e9
                exact aRetB hC hT hF rfl (Or.inr rfl) rfl
      · rcases aIfE hf with ⟨hc31, hf⟩ | ⟨-, hf⟩
        · refine aTsw hC hT (off := 95) (tgt := 96) rfl (2 : Int32) hc31 (by decide) (by decide) (by rfl) (by decide) ?_
          refine aRun_ok hC hT 4 (cf' := (100, [(0, .ref 42), (1, .int a1)], [.int (3 : Int32), .int (0 : Int32), .int (0 : Int32), .ref 42], LAY, S)) (by rfl) ?_
          obtain ⟨w32, ew33, hf⟩ := aBnE hf
          refine aCallV (b := 42) (As := [.int (0 : Int32), .int (0 : Int32), .int (3 : Int32)]) (rest := []) hC hT rfl k_X11_readsRest_106.1 _ _ k_X11_readsRest_106.2 (by decide) (by rfl) (by rfl) (by rfl) (Nat.le_of_ble_eq_true rfl) (by decide) (J_X11_reads_42 C.2.2.1 C.1 N (0 : Int32) (0 : Int32) (3 : Int32) S ew33) ?_
          refine aIf_eq hC hT (tgt := 131) rfl (by decide) (fun hc34 => ?_) (fun hc34 => ?_)
          · have hf := aIfT hf hc34
            refine aRun_ok hC hT 1 (cf' := (132, [(0, .ref 42), (1, .int a1)], [.int (0 : Int32)], LAY, w32.2)) (by rfl) ?_
            have e9 := Option.some.inj hf; subst e9
            exact aRetB hC hT hF rfl (Or.inl rfl) rfl
          · have hf := aIfF hf hc34
            refine aRun_ok hC hT 4 (cf' := (110, [(0, .ref 42), (1, .int a1)], [.int (4 : Int32), .int (0 : Int32), .int (1 : Int32), .ref 42], LAY, w32.2)) (by rfl) ?_
            obtain ⟨w35, ew36, hf⟩ := aBnE hf
            refine aCallV (b := 42) (As := [.int (1 : Int32), .int (0 : Int32), .int (4 : Int32)]) (rest := []) hC hT rfl k_X11_readsRest_106.1 _ _ k_X11_readsRest_106.2 (by decide) (by rfl) (by rfl) (by rfl) (Nat.le_of_ble_eq_true rfl) (by decide) (J_X11_reads_42 C.2.2.1 C.1 N (1 : Int32) (0 : Int32) (4 : Int32) w32.2 ew36) ?_
            refine aIf_eq hC hT (tgt := 131) rfl (by decide) (fun hc37 => ?_) (fun hc37 => ?_)
            · have hf := aIfT hf hc37
              refine aRun_ok hC hT 1 (cf' := (132, [(0, .ref 42), (1, .int a1)], [.int (0 : Int32)], LAY, w35.2)) (by rfl) ?_
              have e9 := Option.some.inj hf; subst e9
              exact aRetB hC hT hF rfl (Or.inl rfl) rfl
            · have hf := aIfF hf hc37
              refine aRun_ok hC hT 4 (cf' := (121, [(0, .ref 42), (1, .int a1)], [.int (99 : Int32), .int (0 : Int32), .int (2 : Int32), .ref 42], LAY, w35.2)) (by rfl) ?_
              obtain ⟨w38, ew39, hf⟩ := aBnE hf
              refine aCallV (b := 42) (As := [.int (2 : Int32), .int (0 : Int32), .int (99 : Int32)]) (rest := []) hC hT rfl k_X11_readsRest_106.1 _ _ k_X11_readsRest_106.2 (by decide) (by rfl) (by rfl) (by rfl) (Nat.le_of_ble_eq_true rfl) (by decide) (J_X11_reads_42 C.2.2.1 C.1 N (2 : Int32) (0 : Int32) (99 : Int32) w35.2 ew39) ?_
              refine aIf_eq hC hT (tgt := 131) rfl (by decide) (fun hc40 => ?_) (fun hc40 => ?_)
              · have hf := aIfT hf hc40
                refine aRun_ok hC hT 1 (cf' := (132, [(0, .ref 42), (1, .int a1)], [.int (0 : Int32)], LAY, w38.2)) (by rfl) ?_
                have e9 := Option.some.inj hf; subst e9
                exact aRetB hC hT hF rfl (Or.inl rfl) rfl
              · have hf := aIfF hf hc40
                refine aRun_ok hC hT 2 (cf' := (132, [(0, .ref 42), (1, .int a1)], [.int (1 : Int32)], LAY, w38.2)) (by rfl) ?_
                have e9 := Option.some.inj hf; subst e9
                exact aRetB hC hT hF rfl (Or.inr rfl) rfl
        · rcases aIfE hf with ⟨hc41, hf⟩ | ⟨-, hf⟩
          · refine aTsw hC hT (off := 132) (tgt := 133) rfl (3 : Int32) hc41 (by decide) (by decide) (by rfl) (by decide) ?_
            refine aRun_ok hC hT 4 (cf' := (138, [(0, .ref 42), (1, .int a1)], [.int (9 : Int32), .int (0 : Int32), .int (0 : Int32), .ref 42], LAY, S)) (by rfl) ?_
            obtain ⟨w42, ew43, hf⟩ := aBnE hf
            refine aCallV (b := 42) (As := [.int (0 : Int32), .int (0 : Int32), .int (9 : Int32)]) (rest := []) hC hT rfl k_X11_readsRest_106.1 _ _ k_X11_readsRest_106.2 (by decide) (by rfl) (by rfl) (by rfl) (Nat.le_of_ble_eq_true rfl) (by decide) (J_X11_reads_42 C.2.2.1 C.1 N (0 : Int32) (0 : Int32) (9 : Int32) S ew43) ?_
            refine aIf_eq hC hT (tgt := 197) rfl (by decide) (fun hc44 => ?_) (fun hc44 => ?_)
            · have hf := aIfT hf hc44
              refine aRun_ok hC hT 1 (cf' := (198, [(0, .ref 42), (1, .int a1)], [.int (0 : Int32)], LAY, w42.2)) (by rfl) ?_
              have e9 := Option.some.inj hf; subst e9
              exact aRetB hC hT hF rfl (Or.inl rfl) rfl
            · have hf := aIfF hf hc44
              refine aRun_ok hC hT 1 (cf' := (145, [(0, .ref 42), (1, .int a1)], [.ref 42], LAY, w42.2)) (by rfl) ?_
              obtain ⟨w45, ew46, hf⟩ := aBnE hf
              refine aCallV (b := 42) (As := []) (rest := []) hC hT rfl k_X11_readsRest_92.1 _ _ k_X11_readsRest_92.2 (by decide) (by rfl) (by rfl) (by rfl) (Nat.le_of_ble_eq_true rfl) (by decide) (J_X11_isNumber_42 C.2.2.1 C.1 N  w42.2 ew46) ?_
              refine aIf_eq hC hT (tgt := 171) rfl (by decide) (fun hc47 => ?_) (fun hc47 => ?_)
              · have hf := aIfT hf hc47
                refine aLocs [0] (lv' := [(0, .ref 42)]) rfl ?_
                exact X11_readsRest_42_b171_ok hC hF w42.2 hf
              · have hf := aIfF hf hc47
                refine aRun_ok hC hT 1 (cf' := (152, [(0, .ref 42), (1, .int a1)], [.ref 42], LAY, w42.2)) (by rfl) ?_
                obtain ⟨w54, ew55, hf⟩ := aBnE hf
                refine aCallV (b := 42) (As := []) (rest := []) hC hT rfl k_X11_readsRest_96.1 _ _ k_X11_readsRest_96.2 (by decide) (by rfl) (by rfl) (by rfl) (Nat.le_of_ble_eq_true rfl) (by decide) (J_X11_value_42 C.2.2.1 C.1 N  w42.2 ew55) ?_
                refine aRun_ok hC hT 8 (cf' := (167, [(0, .ref 42), (1, .int a1)], [.int (((5 : Int32) * (w42.2.1 42 3)) + (1 : Int32)), .ref 44, .int w54], LAY, w42.2)) (by rfl) ?_
                obtain ⟨hin56, hf⟩ := aGdE hf
                refine aIald hC hT rfl (by decide) (by rfl) hin56 ?_
                refine aCmp_eq hC hT (tgt := 197) rfl (by decide) (fun hc57 => ?_) (fun hc57 => ?_)
                · have hf := aIfT hf hc57
                  refine aRun_ok hC hT 1 (cf' := (198, [(0, .ref 42), (1, .int a1)], [.int (0 : Int32)], LAY, w42.2)) (by rfl) ?_
                  have e9 := Option.some.inj hf; subst e9
                  exact aRetB hC hT hF rfl (Or.inl rfl) rfl
                · have hf := aIfF hf hc57
                  refine aLocs [0] (lv' := [(0, .ref 42)]) rfl ?_
                  exact X11_readsRest_42_b171_ok hC hF w42.2 hf
          · rcases aIfE hf with ⟨hc58, hf⟩ | ⟨-, hf⟩
            · refine aTsw hC hT (off := 203) (tgt := 204) rfl (4 : Int32) hc58 (by decide) (by decide) (by rfl) (by decide) ?_
              refine aRun_ok hC hT 4 (cf' := (209, [(0, .ref 42), (1, .int a1)], [.int (99 : Int32), .int (0 : Int32), .int (0 : Int32), .ref 42], LAY, S)) (by rfl) ?_
              obtain ⟨w59, ew60, hf⟩ := aBnE hf
              refine aCallV (b := 42) (As := [.int (0 : Int32), .int (0 : Int32), .int (99 : Int32)]) (rest := []) hC hT rfl k_X11_readsRest_106.1 _ _ k_X11_readsRest_106.2 (by decide) (by rfl) (by rfl) (by rfl) (Nat.le_of_ble_eq_true rfl) (by decide) (J_X11_reads_42 C.2.2.1 C.1 N (0 : Int32) (0 : Int32) (99 : Int32) S ew60) ?_
              obtain ⟨hb61, hf⟩ := aGdE hf
              have e9 := Option.some.inj hf; subst e9
              exact aRetB hC hT hF rfl hb61 rfl
            · rcases aIfE hf with ⟨hc62, hf⟩ | ⟨-, hf⟩
              · refine aTsw hC hT (off := 203) (tgt := 204) rfl (5 : Int32) hc62 (by decide) (by decide) (by rfl) (by decide) ?_
                refine aRun_ok hC hT 4 (cf' := (209, [(0, .ref 42), (1, .int a1)], [.int (99 : Int32), .int (0 : Int32), .int (0 : Int32), .ref 42], LAY, S)) (by rfl) ?_
                obtain ⟨w63, ew64, hf⟩ := aBnE hf
                refine aCallV (b := 42) (As := [.int (0 : Int32), .int (0 : Int32), .int (99 : Int32)]) (rest := []) hC hT rfl k_X11_readsRest_106.1 _ _ k_X11_readsRest_106.2 (by decide) (by rfl) (by rfl) (by rfl) (Nat.le_of_ble_eq_true rfl) (by decide) (J_X11_reads_42 C.2.2.1 C.1 N (0 : Int32) (0 : Int32) (99 : Int32) S ew64) ?_
                obtain ⟨hb65, hf⟩ := aGdE hf
                have e9 := Option.some.inj hf; subst e9
                exact aRetB hC hT hF rfl hb65 rfl
              · rcases aIfE hf with ⟨hc66, hf⟩ | ⟨-, hf⟩
                · refine aTsw hC hT (off := 203) (tgt := 204) rfl (6 : Int32) hc66 (by decide) (by decide) (by rfl) (by decide) ?_
                  refine aRun_ok hC hT 4 (cf' := (209, [(0, .ref 42), (1, .int a1)], [.int (99 : Int32), .int (0 : Int32), .int (0 : Int32), .ref 42], LAY, S)) (by rfl) ?_
                  obtain ⟨w67, ew68, hf⟩ := aBnE hf
                  refine aCallV (b := 42) (As := [.int (0 : Int32), .int (0 : Int32), .int (99 : Int32)]) (rest := []) hC hT rfl k_X11_readsRest_106.1 _ _ k_X11_readsRest_106.2 (by decide) (by rfl) (by rfl) (by rfl) (Nat.le_of_ble_eq_true rfl) (by decide) (J_X11_reads_42 C.2.2.1 C.1 N (0 : Int32) (0 : Int32) (99 : Int32) S ew68) ?_
                  obtain ⟨hb69, hf⟩ := aGdE hf
                  have e9 := Option.some.inj hf; subst e9
                  exact aRetB hC hT hF rfl hb69 rfl
                · rcases aIfE hf with ⟨hc70, hf⟩ | ⟨-, hf⟩
                  · refine aTsw hC hT (off := 198) (tgt := 199) rfl (7 : Int32) hc70 (by decide) (by decide) (by rfl) (by decide) ?_
                    refine aRun_ok hC hT 1 (cf' := (200, [(0, .ref 42), (1, .int a1)], [.ref 42], LAY, S)) (by rfl) ?_
                    obtain ⟨w71, ew72, hf⟩ := aBnE hf
                    refine aCallV (b := 42) (As := []) (rest := []) hC hT rfl k_X11_readsRest_117.1 _ _ k_X11_readsRest_117.2 (by decide) (by rfl) (by rfl) (by rfl) (Nat.le_of_ble_eq_true rfl) (by decide) (J_X11_readsPage_42 C.2.2.1 C.1 N  S ew72) ?_
                    obtain ⟨hb73, hf⟩ := aGdE hf
                    have e9 := Option.some.inj hf; subst e9
                    exact aRetB hC hT hF rfl hb73 rfl
                  · cases hf
def X11_readsLine_42_b117 (N : Nat) (s0 : Int32) (S : aSt) : Option (Int32 × aSt) := (if s0 = ((-1) : Int32) then some (((0 : Int32), S)) else (Option.bind (X11_token_42 N S) (fun w26 => (if aIx ((5 : Int32) * (w26.1 42 3)) 50 = true then (Option.bind (X11_readsRest_42 N s0 (aA w26 44 (upd (w26.2.2 44) ((5 : Int32) * (w26.1 42 3)).toNatClampNeg s0))) (fun w29 => (if w29.1 = (0 : Int32) then some (((0 : Int32), w29.2)) else some (((1 : Int32), (aI w29.2 42 3 ((w29.2.1 42 3) + (1 : Int32)))))))) else none))))
set_option maxHeartbeats 4000000 in
set_option maxRecDepth 100000 in
theorem X11_readsLine_42_b117_ok {C : aC} {N : Nat} (hC : aCx C M_X11_readsLine) {r : Int32 × aSt} (hF : aFin C (some (.int r.1)) LAY r.2 0 0) (s0 : Int32) (S : aSt) (hf : X11_readsLine_42_b117 N s0 S = (some r)) : aX C M_X11_readsLine 0 0 (117, [(0, .ref 42)], [.int s0], LAY, S) := by
  have hT := ok_X11_readsLine
  unfold X11_readsLine_42_b117 at hf
  refine aRun_ok hC hT 3 (cf' := (120, [(1, .int s0), (0, .ref 42)], [.int ((-1) : Int32), .int s0], LAY, S)) (by rfl) ?_
  refine aCmp_ne hC hT (tgt := 125) rfl (by decide) (fun hc25 => ?_) (fun hc25 => ?_)
  · have hf := aIfF hf hc25
    refine aRun_ok hC hT 1 (cf' := (126, [(1, .int s0), (0, .ref 42)], [.ref 42], LAY, S)) (by rfl) ?_
    obtain ⟨w26, ew27, hf⟩ := aBnE hf
    refine aCallV (b := 42) (As := []) (rest := []) hC hT rfl k_X11_readsLine_103.1 _ _ k_X11_readsLine_103.2 (by decide) (by rfl) (by rfl) (by rfl) (Nat.le_of_ble_eq_true rfl) (by decide) (J_X11_token_42 C.2.2.1 C.1 N  S ew27) ?_
    refine aRun_ok hC hT 7 (cf' := (140, [(1, .int s0), (0, .ref 42)], [.int s0, .int ((5 : Int32) * (w26.1 42 3)), .ref 44], LAY, w26)) (by rfl) ?_
    obtain ⟨hin28, hf⟩ := aGdE hf
    refine aIast hC hT rfl (by decide) (by rfl) hin28 ?_
    refine aRun_ok hC hT 2 (cf' := (143, [(1, .int s0), (0, .ref 42)], [.int s0, .ref 42], LAY, (aA w26 44 (upd (w26.2.2 44) ((5 : Int32) * (w26.1 42 3)).toNatClampNeg s0)))) (by rfl) ?_
    obtain ⟨w29, ew30, hf⟩ := aBnE hf
    refine aCallV (b := 42) (As := [.int s0]) (rest := []) hC hT rfl k_X11_readsLine_126.1 _ _ k_X11_readsLine_126.2 (by decide) (by rfl) (by rfl) (by rfl) (Nat.le_of_ble_eq_true rfl) (by decide) (J_X11_readsRest_42 C.2.2.1 C.1 N s0 (aA w26 44 (upd (w26.2.2 44) ((5 : Int32) * (w26.1 42 3)).toNatClampNeg s0)) ew30) ?_
    refine aIf_ne hC hT (tgt := 151) rfl (by decide) (fun hc31 => ?_) (fun hc31 => ?_)
    · have hf := aIfF hf hc31
      refine aRun_ok hC hT 7 (cf' := (162, [(1, .int s0), (0, .ref 42)], [.int (1 : Int32)], LAY, (aI w29.2 42 3 ((w29.2.1 42 3) + (1 : Int32))))) (by rfl) ?_
      have e9 := Option.some.inj hf; subst e9
      exact aRetB hC hT hF rfl (Or.inr rfl) rfl
    · have hf := aIfT hf hc31
      refine aRun_ok hC hT 1 (cf' := (150, [(1, .int s0), (0, .ref 42)], [.int (0 : Int32)], LAY, w29.2)) (by rfl) ?_
      have e9 := Option.some.inj hf; subst e9
      exact aRetB hC hT hF rfl (Or.inl rfl) rfl
  · have hf := aIfT hf hc25
    refine aRun_ok hC hT 1 (cf' := (124, [(1, .int s0), (0, .ref 42)], [.int (0 : Int32)], LAY, S)) (by rfl) ?_
    have e9 := Option.some.inj hf; subst e9
    exact aRetB hC hT hF rfl (Or.inl rfl) rfl
def X11_readsLine_42 (N : Nat) (S : aSt) : Option (Int32 × aSt) := (Option.bind (X11_isWord_42 N (661676 : Int32) (4 : Int32) S) (fun w1 => (if w1 = (0 : Int32) then (Option.bind (X11_isWord_42 N (21241138 : Int32) (5 : Int32) S) (fun w4 => (if w4 = (0 : Int32) then (Option.bind (X11_isWord_42 N (145448 : Int32) (4 : Int32) S) (fun w7 => (if w7 = (0 : Int32) then (Option.bind (X11_isWord_42 N (132274 : Int32) (4 : Int32) S) (fun w10 => (if w10 = (0 : Int32) then (Option.bind (X11_isWord_42 N (140102957 : Int32) (6 : Int32) S) (fun w13 => (if w13 = (0 : Int32) then (Option.bind (X11_isWord_42 N (26822691 : Int32) (5 : Int32) S) (fun w16 => (if w16 = (0 : Int32) then (Option.bind (X11_isWord_42 N (149392563 : Int32) (6 : Int32) S) (fun w19 => (if w19 = (0 : Int32) then (Option.bind (X11_isWord_42 N (171056 : Int32) (4 : Int32) S) (fun w22 => (if w22 = (0 : Int32) then (X11_readsLine_42_b117 N ((-1) : Int32) S) else (X11_readsLine_42_b117 N (7 : Int32) S)))) else (X11_readsLine_42_b117 N (6 : Int32) S)))) else (X11_readsLine_42_b117 N (5 : Int32) S)))) else (X11_readsLine_42_b117 N (4 : Int32) S)))) else (X11_readsLine_42_b117 N (3 : Int32) S)))) else (X11_readsLine_42_b117 N (2 : Int32) S)))) else (X11_readsLine_42_b117 N (1 : Int32) S)))) else (X11_readsLine_42_b117 N (0 : Int32) S))))
set_option maxHeartbeats 4000000 in
set_option maxRecDepth 100000 in
theorem J_X11_readsLine_42 (l : Launch) (g : aWg) (N : Nat) (S : aSt) {r : Int32 × aSt} (hf : X11_readsLine_42 N S = (some r)) : aJ l g yX11_readsLine M_X11_readsLine [.ref 42] LAY S (some (.int r.1)) LAY r.2 0 0 := by
  refine aJ_of (by decide +kernel) rfl (Nat.le_of_ble_eq_true rfl) (fun h => nomatch h) ?_
  intro C hg hl hC hz hF
  subst hg; subst hl
  have hT := ok_X11_readsLine
  unfold X11_readsLine_42 at hf
  show aX C M_X11_readsLine 0 0 (0, [(0, .ref 42)], [], LAY, S)
  refine aRun_ok hC hT 3 (cf' := (4, [(0, .ref 42)], [.int (4 : Int32), .int (661676 : Int32), .ref 42], LAY, S)) (by rfl) ?_
  obtain ⟨w1, ew2, hf⟩ := aBnE hf
  refine aCallV (b := 42) (As := [.int (661676 : Int32), .int (4 : Int32)]) (rest := []) hC hT rfl k_X11_readsLine_110.1 _ _ k_X11_readsLine_110.2 (by decide) (by rfl) (by rfl) (by rfl) (Nat.le_of_ble_eq_true rfl) (by decide) (J_X11_isWord_42 C.2.2.1 C.1 N (661676 : Int32) (4 : Int32) S ew2) ?_
  refine aIf_eq hC hT (tgt := 14) rfl (by decide) (fun hc3 => ?_) (fun hc3 => ?_)
  · have hf := aIfT hf hc3
    refine aRun_ok hC hT 3 (cf' := (18, [(0, .ref 42)], [.int (5 : Int32), .int (21241138 : Int32), .ref 42], LAY, S)) (by rfl) ?_
    obtain ⟨w4, ew5, hf⟩ := aBnE hf
    refine aCallV (b := 42) (As := [.int (21241138 : Int32), .int (5 : Int32)]) (rest := []) hC hT rfl k_X11_readsLine_110.1 _ _ k_X11_readsLine_110.2 (by decide) (by rfl) (by rfl) (by rfl) (Nat.le_of_ble_eq_true rfl) (by decide) (J_X11_isWord_42 C.2.2.1 C.1 N (21241138 : Int32) (5 : Int32) S ew5) ?_
    refine aIf_eq hC hT (tgt := 28) rfl (by decide) (fun hc6 => ?_) (fun hc6 => ?_)
    · have hf := aIfT hf hc6
      refine aRun_ok hC hT 3 (cf' := (32, [(0, .ref 42)], [.int (4 : Int32), .int (145448 : Int32), .ref 42], LAY, S)) (by rfl) ?_
      obtain ⟨w7, ew8, hf⟩ := aBnE hf
      refine aCallV (b := 42) (As := [.int (145448 : Int32), .int (4 : Int32)]) (rest := []) hC hT rfl k_X11_readsLine_110.1 _ _ k_X11_readsLine_110.2 (by decide) (by rfl) (by rfl) (by rfl) (Nat.le_of_ble_eq_true rfl) (by decide) (J_X11_isWord_42 C.2.2.1 C.1 N (145448 : Int32) (4 : Int32) S ew8) ?_
      refine aIf_eq hC hT (tgt := 42) rfl (by decide) (fun hc9 => ?_) (fun hc9 => ?_)
      · have hf := aIfT hf hc9
        refine aRun_ok hC hT 3 (cf' := (46, [(0, .ref 42)], [.int (4 : Int32), .int (132274 : Int32), .ref 42], LAY, S)) (by rfl) ?_
        obtain ⟨w10, ew11, hf⟩ := aBnE hf
        refine aCallV (b := 42) (As := [.int (132274 : Int32), .int (4 : Int32)]) (rest := []) hC hT rfl k_X11_readsLine_110.1 _ _ k_X11_readsLine_110.2 (by decide) (by rfl) (by rfl) (by rfl) (Nat.le_of_ble_eq_true rfl) (by decide) (J_X11_isWord_42 C.2.2.1 C.1 N (132274 : Int32) (4 : Int32) S ew11) ?_
        refine aIf_eq hC hT (tgt := 56) rfl (by decide) (fun hc12 => ?_) (fun hc12 => ?_)
        · have hf := aIfT hf hc12
          refine aRun_ok hC hT 3 (cf' := (61, [(0, .ref 42)], [.int (6 : Int32), .int (140102957 : Int32), .ref 42], LAY, S)) (by rfl) ?_
          obtain ⟨w13, ew14, hf⟩ := aBnE hf
          refine aCallV (b := 42) (As := [.int (140102957 : Int32), .int (6 : Int32)]) (rest := []) hC hT rfl k_X11_readsLine_110.1 _ _ k_X11_readsLine_110.2 (by decide) (by rfl) (by rfl) (by rfl) (Nat.le_of_ble_eq_true rfl) (by decide) (J_X11_isWord_42 C.2.2.1 C.1 N (140102957 : Int32) (6 : Int32) S ew14) ?_
          refine aIf_eq hC hT (tgt := 71) rfl (by decide) (fun hc15 => ?_) (fun hc15 => ?_)
          · have hf := aIfT hf hc15
            refine aRun_ok hC hT 3 (cf' := (75, [(0, .ref 42)], [.int (5 : Int32), .int (26822691 : Int32), .ref 42], LAY, S)) (by rfl) ?_
            obtain ⟨w16, ew17, hf⟩ := aBnE hf
            refine aCallV (b := 42) (As := [.int (26822691 : Int32), .int (5 : Int32)]) (rest := []) hC hT rfl k_X11_readsLine_110.1 _ _ k_X11_readsLine_110.2 (by decide) (by rfl) (by rfl) (by rfl) (Nat.le_of_ble_eq_true rfl) (by decide) (J_X11_isWord_42 C.2.2.1 C.1 N (26822691 : Int32) (5 : Int32) S ew17) ?_
            refine aIf_eq hC hT (tgt := 85) rfl (by decide) (fun hc18 => ?_) (fun hc18 => ?_)
            · have hf := aIfT hf hc18
              refine aRun_ok hC hT 3 (cf' := (90, [(0, .ref 42)], [.int (6 : Int32), .int (149392563 : Int32), .ref 42], LAY, S)) (by rfl) ?_
              obtain ⟨w19, ew20, hf⟩ := aBnE hf
              refine aCallV (b := 42) (As := [.int (149392563 : Int32), .int (6 : Int32)]) (rest := []) hC hT rfl k_X11_readsLine_110.1 _ _ k_X11_readsLine_110.2 (by decide) (by rfl) (by rfl) (by rfl) (Nat.le_of_ble_eq_true rfl) (by decide) (J_X11_isWord_42 C.2.2.1 C.1 N (149392563 : Int32) (6 : Int32) S ew20) ?_
              refine aIf_eq hC hT (tgt := 101) rfl (by decide) (fun hc21 => ?_) (fun hc21 => ?_)
              · have hf := aIfT hf hc21
                refine aRun_ok hC hT 3 (cf' := (105, [(0, .ref 42)], [.int (4 : Int32), .int (171056 : Int32), .ref 42], LAY, S)) (by rfl) ?_
                obtain ⟨w22, ew23, hf⟩ := aBnE hf
                refine aCallV (b := 42) (As := [.int (171056 : Int32), .int (4 : Int32)]) (rest := []) hC hT rfl k_X11_readsLine_110.1 _ _ k_X11_readsLine_110.2 (by decide) (by rfl) (by rfl) (by rfl) (Nat.le_of_ble_eq_true rfl) (by decide) (J_X11_isWord_42 C.2.2.1 C.1 N (171056 : Int32) (4 : Int32) S ew23) ?_
                refine aIf_eq hC hT (tgt := 116) rfl (by decide) (fun hc24 => ?_) (fun hc24 => ?_)
                · have hf := aIfT hf hc24
                  refine aRun_ok hC hT 1 (cf' := (117, [(0, .ref 42)], [.int ((-1) : Int32)], LAY, S)) (by rfl) ?_
                  exact X11_readsLine_42_b117_ok hC hF ((-1) : Int32) S hf
                · have hf := aIfF hf hc24
                  refine aRun_ok hC hT 2 (cf' := (117, [(0, .ref 42)], [.int (7 : Int32)], LAY, S)) (by rfl) ?_
                  exact X11_readsLine_42_b117_ok hC hF (7 : Int32) S hf
              · have hf := aIfF hf hc21
                refine aRun_ok hC hT 2 (cf' := (117, [(0, .ref 42)], [.int (6 : Int32)], LAY, S)) (by rfl) ?_
                exact X11_readsLine_42_b117_ok hC hF (6 : Int32) S hf
            · have hf := aIfF hf hc18
              refine aRun_ok hC hT 2 (cf' := (117, [(0, .ref 42)], [.int (5 : Int32)], LAY, S)) (by rfl) ?_
              exact X11_readsLine_42_b117_ok hC hF (5 : Int32) S hf
          · have hf := aIfF hf hc15
            refine aRun_ok hC hT 2 (cf' := (117, [(0, .ref 42)], [.int (4 : Int32)], LAY, S)) (by rfl) ?_
            exact X11_readsLine_42_b117_ok hC hF (4 : Int32) S hf
        · have hf := aIfF hf hc12
          refine aRun_ok hC hT 2 (cf' := (117, [(0, .ref 42)], [.int (3 : Int32)], LAY, S)) (by rfl) ?_
          exact X11_readsLine_42_b117_ok hC hF (3 : Int32) S hf
      · have hf := aIfF hf hc9
        refine aRun_ok hC hT 2 (cf' := (117, [(0, .ref 42)], [.int (2 : Int32)], LAY, S)) (by rfl) ?_
        exact X11_readsLine_42_b117_ok hC hF (2 : Int32) S hf
    · have hf := aIfF hf hc6
      refine aRun_ok hC hT 2 (cf' := (117, [(0, .ref 42)], [.int (1 : Int32)], LAY, S)) (by rfl) ?_
      exact X11_readsLine_42_b117_ok hC hF (1 : Int32) S hf
  · have hf := aIfF hf hc3
    refine aRun_ok hC hT 2 (cf' := (117, [(0, .ref 42)], [.int (0 : Int32)], LAY, S)) (by rfl) ?_
    exact X11_readsLine_42_b117_ok hC hF (0 : Int32) S hf
def X11_fault_42_b92 (N : Nat) (rec26 : aSt → Option (Int32 × aSt)) (v1 : Int32) (S : aSt) : Option (Int32 × aSt) := (if v1 = (0 : Int32) then some (((S.1 42 16), S)) else (rec26 S))
set_option maxHeartbeats 4000000 in
set_option maxRecDepth 100000 in
theorem X11_fault_42_b92_ok {C : aC} {N : Nat} {rec26 : aSt → Option (Int32 × aSt)} (hC : aCx C M_X11_fault) {r : Int32 × aSt} (hF : aFin C (some (.int r.1)) LAY r.2 0 0) (hrec26 : ∀ (S : aSt), rec26 S = (some r) → aX C M_X11_fault 0 0 (26, [(0, .ref 42)], [], LAY, S)) (v1 : Int32) (S : aSt) (hf : X11_fault_42_b92 N rec26 v1 S = (some r)) : aX C M_X11_fault 0 0 (92, [(0, .ref 42), (1, .int v1)], [], LAY, S) := by
  have hT := ok_X11_fault
  unfold X11_fault_42_b92 at hf
  refine aRun_ok hC hT 1 (cf' := (93, [(0, .ref 42), (1, .int v1)], [.int v1], LAY, S)) (by rfl) ?_
  refine aIf_ne hC hT (tgt := 101) rfl (by decide) (fun hc9 => ?_) (fun hc9 => ?_)
  · have hf := aIfF hf hc9
    refine aRun_ok hC hT 1 (cf' := (26, [(0, .ref 42), (1, .int v1)], [], LAY, S)) (by rfl) ?_
    refine aLocs [0] (lv' := [(0, .ref 42)]) rfl ?_
    exact hrec26 S hf
  · have hf := aIfT hf hc9
    refine aRun_ok hC hT 2 (cf' := (100, [(0, .ref 42), (1, .int v1)], [.int (S.1 42 16)], LAY, S)) (by rfl) ?_
    have e9 := Option.some.inj hf; subst e9
    exact aRetI hC hT hF rfl rfl
def X11_fault_42_b78 (N : Nat) (rec26 : aSt → Option (Int32 × aSt)) (s0 : Int32) (S : aSt) : Option (Int32 × aSt) := (if s0 = (0 : Int32) then (X11_fault_42_b92 N rec26 s0 S) else (Option.bind (X11_token_42 N S) (fun w10 => (Option.bind (X11_readsLine_42 N w10) (fun w12 => (X11_fault_42_b92 N rec26 w12.1 w12.2))))))
set_option maxHeartbeats 4000000 in
set_option maxRecDepth 100000 in
theorem X11_fault_42_b78_ok {C : aC} {N : Nat} {rec26 : aSt → Option (Int32 × aSt)} (hC : aCx C M_X11_fault) {r : Int32 × aSt} (hF : aFin C (some (.int r.1)) LAY r.2 0 0) (hrec26 : ∀ (S : aSt), rec26 S = (some r) → aX C M_X11_fault 0 0 (26, [(0, .ref 42)], [], LAY, S)) (s0 : Int32) (S : aSt) (hf : X11_fault_42_b78 N rec26 s0 S = (some r)) : aX C M_X11_fault 0 0 (78, [(0, .ref 42)], [.int s0], LAY, S) := by
  have hT := ok_X11_fault
  unfold X11_fault_42_b78 at hf
  refine aRun_ok hC hT 2 (cf' := (80, [(1, .int s0), (0, .ref 42)], [.int s0], LAY, S)) (by rfl) ?_
  refine aIf_eq hC hT (tgt := 92) rfl (by decide) (fun hc8 => ?_) (fun hc8 => ?_)
  · have hf := aIfT hf hc8
    refine aLocs [1, 0] (lv' := [(0, .ref 42), (1, .int s0)]) rfl ?_
    exact X11_fault_42_b92_ok hC hF hrec26 s0 S hf
  · have hf := aIfF hf hc8
    refine aRun_ok hC hT 1 (cf' := (84, [(1, .int s0), (0, .ref 42)], [.ref 42], LAY, S)) (by rfl) ?_
    obtain ⟨w10, ew11, hf⟩ := aBnE hf
    refine aCallV (b := 42) (As := []) (rest := []) hC hT rfl k_X11_fault_103.1 _ _ k_X11_fault_103.2 (by decide) (by rfl) (by rfl) (by rfl) (Nat.le_of_ble_eq_true rfl) (by decide) (J_X11_token_42 C.2.2.1 C.1 N  S ew11) ?_
    refine aRun_ok hC hT 1 (cf' := (88, [(1, .int s0), (0, .ref 42)], [.ref 42], LAY, w10)) (by rfl) ?_
    obtain ⟨w12, ew13, hf⟩ := aBnE hf
    refine aCallV (b := 42) (As := []) (rest := []) hC hT rfl k_X11_fault_130.1 _ _ k_X11_fault_130.2 (by decide) (by rfl) (by rfl) (by rfl) (Nat.le_of_ble_eq_true rfl) (by decide) (J_X11_readsLine_42 C.2.2.1 C.1 N  w10 ew13) ?_
    refine aRun_ok hC hT 1 (cf' := (92, [(1, .int w12.1), (0, .ref 42)], [], LAY, w12.2)) (by rfl) ?_
    refine aLocs [1, 0] (lv' := [(0, .ref 42), (1, .int w12.1)]) rfl ?_
    exact X11_fault_42_b92_ok hC hF hrec26 w12.1 w12.2 hf
def X11_fault_42_b77 (N : Nat) (rec26 : aSt → Option (Int32 × aSt)) (S : aSt) : Option (Int32 × aSt) := (X11_fault_42_b78 N rec26 (0 : Int32) S)
set_option maxHeartbeats 4000000 in
set_option maxRecDepth 100000 in
theorem X11_fault_42_b77_ok {C : aC} {N : Nat} {rec26 : aSt → Option (Int32 × aSt)} (hC : aCx C M_X11_fault) {r : Int32 × aSt} (hF : aFin C (some (.int r.1)) LAY r.2 0 0) (hrec26 : ∀ (S : aSt), rec26 S = (some r) → aX C M_X11_fault 0 0 (26, [(0, .ref 42)], [], LAY, S)) (S : aSt) (hf : X11_fault_42_b77 N rec26 S = (some r)) : aX C M_X11_fault 0 0 (77, [(0, .ref 42)], [], LAY, S) := by
  have hT := ok_X11_fault
  unfold X11_fault_42_b77 at hf
  refine aRun_ok hC hT 1 (cf' := (78, [(0, .ref 42)], [.int (0 : Int32)], LAY, S)) (by rfl) ?_
  exact X11_fault_42_b78_ok hC hF hrec26 (0 : Int32) S hf
def X11_fault_42_b26 (N : Nat) (rec26 : aSt → Option (Int32 × aSt)) (S : aSt) : Option (Int32 × aSt) := (if (S.1 42 1) ≤ (S.1 42 16) then some ((((-1) : Int32), S)) else (if ((S.1 42 17) - (S.1 42 16)) = (1 : Int32) then (if aIx (S.1 42 16) 200 = true then (if ((S.2.2 43) (S.1 42 16).toNatClampNeg) = (59 : Int32) then (if (10 : Int32) ≤ (S.1 42 3) then (X11_fault_42_b77 N rec26 S) else (X11_fault_42_b78 N rec26 (1 : Int32) S)) else (X11_fault_42_b77 N rec26 S)) else none) else (X11_fault_42_b77 N rec26 S)))
set_option maxHeartbeats 4000000 in
set_option maxRecDepth 100000 in
theorem X11_fault_42_b26_ok {C : aC} {N : Nat} {rec26 : aSt → Option (Int32 × aSt)} (hC : aCx C M_X11_fault) {r : Int32 × aSt} (hF : aFin C (some (.int r.1)) LAY r.2 0 0) (hrec26 : ∀ (S : aSt), rec26 S = (some r) → aX C M_X11_fault 0 0 (26, [(0, .ref 42)], [], LAY, S)) (S : aSt) (hf : X11_fault_42_b26 N rec26 S = (some r)) : aX C M_X11_fault 0 0 (26, [(0, .ref 42)], [], LAY, S) := by
  have hT := ok_X11_fault
  unfold X11_fault_42_b26 at hf
  refine aRun_ok hC hT 4 (cf' := (34, [(0, .ref 42)], [.int (S.1 42 1), .int (S.1 42 16)], LAY, S)) (by rfl) ?_
  refine aCmp_ge hC hT (tgt := 104) rfl (by decide) (fun hc6 => ?_) (fun hc6 => ?_)
  · have hf := aIfT hf hc6
    refine aRun_ok hC hT 1 (cf' := (105, [(0, .ref 42)], [.int ((-1) : Int32)], LAY, S)) (by rfl) ?_
    have e9 := Option.some.inj hf; subst e9
    exact aRetI hC hT hF rfl rfl
  · have hf := aIfF hf hc6
    refine aRun_ok hC hT 6 (cf' := (47, [(0, .ref 42)], [.int (1 : Int32), .int ((S.1 42 17) - (S.1 42 16))], LAY, S)) (by rfl) ?_
    refine aCmp_ne hC hT (tgt := 77) rfl (by decide) (fun hc7 => ?_) (fun hc7 => ?_)
    · have hf := aIfF hf hc7
      exact X11_fault_42_b77_ok hC hF hrec26 S hf
    · have hf := aIfT hf hc7
      refine aRun_ok hC hT 4 (cf' := (58, [(0, .ref 42)], [.int (S.1 42 16), .ref 43], LAY, S)) (by rfl) ?_
      obtain ⟨hin14, hf⟩ := aGdE hf
      refine aIald hC hT rfl (by decide) (by rfl) hin14 ?_
      refine aRun_ok hC hT 1 (cf' := (61, [(0, .ref 42)], [.int (59 : Int32), .int ((S.2.2 43) (S.1 42 16).toNatClampNeg)], LAY, S)) (by rfl) ?_
      refine aCmp_ne hC hT (tgt := 77) rfl (by decide) (fun hc15 => ?_) (fun hc15 => ?_)
      · have hf := aIfF hf hc15
        exact X11_fault_42_b77_ok hC hF hrec26 S hf
      · have hf := aIfT hf hc15
        refine aRun_ok hC hT 3 (cf' := (70, [(0, .ref 42)], [.int (10 : Int32), .int (S.1 42 3)], LAY, S)) (by rfl) ?_
        refine aCmp_ge hC hT (tgt := 77) rfl (by decide) (fun hc16 => ?_) (fun hc16 => ?_)
        · have hf := aIfT hf hc16
          exact X11_fault_42_b77_ok hC hF hrec26 S hf
        · have hf := aIfF hf hc16
          refine aRun_ok hC hT 2 (cf' := (78, [(0, .ref 42)], [.int (1 : Int32)], LAY, S)) (by rfl) ?_
          exact X11_fault_42_b78_ok hC hF hrec26 (1 : Int32) S hf
def X11_fault_42_l26 (N : Nat) : Nat → aSt → Option (Int32 × aSt)
  | 0 => fun _ => none
  | n + 1 => X11_fault_42_b26 N (X11_fault_42_l26 N n)
theorem X11_fault_42_l26_ok {C : aC} {N : Nat} (hC : aCx C M_X11_fault) {r : Int32 × aSt} (hF : aFin C (some (.int r.1)) LAY r.2 0 0) : ∀ (n : Nat) (S : aSt), X11_fault_42_l26 N n S = (some r) → aX C M_X11_fault 0 0 (26, [(0, .ref 42)], [], LAY, S)
  | 0, _,  h => nomatch (show (none : Option (Int32 × aSt)) = some _ from h)
  | n + 1, S,  h => X11_fault_42_b26_ok hC hF (fun S h => X11_fault_42_l26_ok hC hF n S h) S h
def X11_fault_42 (N : Nat) (S : aSt) : Option (Int32 × aSt) := (Option.bind (X11_token_42 N (aI (aI S 42 15 (0 : Int32)) 42 3 (0 : Int32))) (fun w1 => (Option.bind (X11_readsLine_42 N w1) (fun w3 => (if w3.1 = (0 : Int32) then some (((w3.2.1 42 16), w3.2)) else (X11_fault_42_l26 N N w3.2))))))
set_option maxHeartbeats 4000000 in
set_option maxRecDepth 100000 in
theorem J_X11_fault_42 (l : Launch) (g : aWg) (N : Nat) (S : aSt) {r : Int32 × aSt} (hf : X11_fault_42 N S = (some r)) : aJ l g yX11_fault M_X11_fault [.ref 42] LAY S (some (.int r.1)) LAY r.2 0 0 := by
  refine aJ_of (by decide +kernel) rfl (Nat.le_of_ble_eq_true rfl) (fun h => nomatch h) ?_
  intro C hg hl hC hz hF
  subst hg; subst hl
  have hT := ok_X11_fault
  unfold X11_fault_42 at hf
  show aX C M_X11_fault 0 0 (0, [(0, .ref 42)], [], LAY, S)
  refine aRun_ok hC hT 7 (cf' := (11, [(0, .ref 42)], [.ref 42], LAY, (aI (aI S 42 15 (0 : Int32)) 42 3 (0 : Int32)))) (by rfl) ?_
  obtain ⟨w1, ew2, hf⟩ := aBnE hf
  refine aCallV (b := 42) (As := []) (rest := []) hC hT rfl k_X11_fault_103.1 _ _ k_X11_fault_103.2 (by decide) (by rfl) (by rfl) (by rfl) (Nat.le_of_ble_eq_true rfl) (by decide) (J_X11_token_42 C.2.2.1 C.1 N  (aI (aI S 42 15 (0 : Int32)) 42 3 (0 : Int32)) ew2) ?_
  refine aRun_ok hC hT 1 (cf' := (15, [(0, .ref 42)], [.ref 42], LAY, w1)) (by rfl) ?_
  obtain ⟨w3, ew4, hf⟩ := aBnE hf
  refine aCallV (b := 42) (As := []) (rest := []) hC hT rfl k_X11_fault_130.1 _ _ k_X11_fault_130.2 (by decide) (by rfl) (by rfl) (by rfl) (Nat.le_of_ble_eq_true rfl) (by decide) (J_X11_readsLine_42 C.2.2.1 C.1 N  w1 ew4) ?_
  refine aIf_ne hC hT (tgt := 26) rfl (by decide) (fun hc5 => ?_) (fun hc5 => ?_)
  · have hf := aIfF hf hc5
    exact X11_fault_42_l26_ok hC hF N w3.2 hf
  · have hf := aIfT hf hc5
    refine aRun_ok hC hT 2 (cf' := (25, [(0, .ref 42)], [.int (w3.2.1 42 16)], LAY, w3.2)) (by rfl) ?_
    have e9 := Option.some.inj hf; subst e9
    exact aRetI hC hT hF rfl rfl
def X11_lay_42_b249 (N : Nat) (v2 : Int32) (v3 : Int32) (v4 : Int32) (s0 : Int32) (S : aSt) : Option (aSt) := (if v3 = (0 : Int32) then (if aIx v2 6 = true then some ((aA (aI S 42 7 s0) 46 (upd (S.2.2 46) v2.toNatClampNeg v4))) else none) else (if aIx v2 6 = true then some ((aA (aI S 42 7 s0) 46 (upd (S.2.2 46) v2.toNatClampNeg (-v4)))) else none))
set_option maxHeartbeats 4000000 in
set_option maxRecDepth 100000 in
theorem X11_lay_42_b249_ok {C : aC} {N : Nat} (hC : aCx C M_X11_lay) {r : aSt} (hF : aFin C none LAY r 0 0) (v2 : Int32) (v3 : Int32) (v4 : Int32) (s0 : Int32) (S : aSt) (hf : X11_lay_42_b249 N v2 v3 v4 s0 S = (some r)) : aX C M_X11_lay 0 0 (249, [(0, .ref 42), (2, .int v2), (3, .int v3), (4, .int v4)], [.int s0, .ref 42], LAY, S) := by
  have hT := ok_X11_lay
  unfold X11_lay_42_b249 at hf
  refine aRun_ok hC hT 5 (cf' := (258, [(0, .ref 42), (2, .int v2), (3, .int v3), (4, .int v4)], [.int v3, .int v2, .ref 46], LAY, (aI S 42 7 s0))) (by rfl) ?_
  refine aIf_ne hC hT (tgt := 266) rfl (by decide) (fun hc7 => ?_) (fun hc7 => ?_)
  · have hf := aIfF hf hc7
    refine aRun_ok hC hT 2 (cf' := (269, [(0, .ref 42), (2, .int v2), (3, .int v3), (4, .int v4)], [.int (-v4), .int v2, .ref 46], LAY, (aI S 42 7 s0))) (by rfl) ?_
    obtain ⟨hin8, hf⟩ := aGdE hf
    refine aIast hC hT rfl (by decide) (by rfl) hin8 ?_
    have e9 := Option.some.inj hf; subst e9
    exact aRetV hC hT hF rfl rfl
  · have hf := aIfT hf hc7
    refine aRun_ok hC hT 2 (cf' := (269, [(0, .ref 42), (2, .int v2), (3, .int v3), (4, .int v4)], [.int v4, .int v2, .ref 46], LAY, (aI S 42 7 s0))) (by rfl) ?_
    obtain ⟨hin9, hf⟩ := aGdE hf
    refine aIast hC hT rfl (by decide) (by rfl) hin9 ?_
    have e9 := Option.some.inj hf; subst e9
    exact aRetV hC hT hF rfl rfl
def X11_lay_42 (N : Nat) (a1 : Int32) (S : aSt) : Option (aSt) := (if aIx (a1 + (1 : Int32)) 50 = true then (if aIx (a1 + (2 : Int32)) 50 = true then (if aIx (a1 + (3 : Int32)) 50 = true then (if aIx a1 50 = true then (if ((S.2.2 44) a1.toNatClampNeg).toInt < 0 ∨ 6 < ((S.2.2 44) a1.toNatClampNeg).toInt then (if ((S.2.2 44) (a1 + (2 : Int32)).toNatClampNeg) = (2 : Int32) then (X11_lay_42_b249 N ((S.2.2 44) (a1 + (1 : Int32)).toNatClampNeg) ((S.2.2 44) (a1 + (2 : Int32)).toNatClampNeg) ((S.2.2 44) (a1 + (3 : Int32)).toNatClampNeg) ((S.1 42 7) &&& (((1 : Int32) <<< (((S.2.2 44) (a1 + (1 : Int32)).toNatClampNeg) &&& 31)) ^^^ ((-1) : Int32))) S) else (X11_lay_42_b249 N ((S.2.2 44) (a1 + (1 : Int32)).toNatClampNeg) ((S.2.2 44) (a1 + (2 : Int32)).toNatClampNeg) ((S.2.2 44) (a1 + (3 : Int32)).toNatClampNeg) ((S.1 42 7) ||| ((1 : Int32) <<< (((S.2.2 44) (a1 + (1 : Int32)).toNatClampNeg) &&& 31))) S)) else (if ((S.2.2 44) a1.toNatClampNeg) = (0 : Int32) then (if (30 : Int32) ≤ (S.1 42 5) then some (S) else (if aIx a1 50 = true then (if aIx ((5 : Int32) * (S.1 42 5)) 150 = true then (if aIx (((5 : Int32) * (S.1 42 5)) + (1 : Int32)) 150 = true then (if aIx (((5 : Int32) * (S.1 42 5)) + (2 : Int32)) 150 = true then (if aIx (((5 : Int32) * (S.1 42 5)) + (3 : Int32)) 150 = true then (if aIx (a1 + (4 : Int32)) 50 = true then (if aIx (((5 : Int32) * (S.1 42 5)) + (4 : Int32)) 150 = true then some ((aI (aA (aA (aA (aA (aA S 45 (upd (S.2.2 45) ((5 : Int32) * (S.1 42 5)).toNatClampNeg ((S.2.2 44) a1.toNatClampNeg))) 45 (upd (upd (S.2.2 45) ((5 : Int32) * (S.1 42 5)).toNatClampNeg ((S.2.2 44) a1.toNatClampNeg)) (((5 : Int32) * (S.1 42 5)) + (1 : Int32)).toNatClampNeg ((S.2.2 44) (a1 + (1 : Int32)).toNatClampNeg))) 45 (upd (upd (upd (S.2.2 45) ((5 : Int32) * (S.1 42 5)).toNatClampNeg ((S.2.2 44) a1.toNatClampNeg)) (((5 : Int32) * (S.1 42 5)) + (1 : Int32)).toNatClampNeg ((S.2.2 44) (a1 + (1 : Int32)).toNatClampNeg)) (((5 : Int32) * (S.1 42 5)) + (2 : Int32)).toNatClampNeg ((S.2.2 44) (a1 + (2 : Int32)).toNatClampNeg))) 45 (upd (upd (upd (upd (S.2.2 45) ((5 : Int32) * (S.1 42 5)).toNatClampNeg ((S.2.2 44) a1.toNatClampNeg)) (((5 : Int32) * (S.1 42 5)) + (1 : Int32)).toNatClampNeg ((S.2.2 44) (a1 + (1 : Int32)).toNatClampNeg)) (((5 : Int32) * (S.1 42 5)) + (2 : Int32)).toNatClampNeg ((S.2.2 44) (a1 + (2 : Int32)).toNatClampNeg)) (((5 : Int32) * (S.1 42 5)) + (3 : Int32)).toNatClampNeg ((S.2.2 44) (a1 + (3 : Int32)).toNatClampNeg))) 45 (upd (upd (upd (upd (upd (S.2.2 45) ((5 : Int32) * (S.1 42 5)).toNatClampNeg ((S.2.2 44) a1.toNatClampNeg)) (((5 : Int32) * (S.1 42 5)) + (1 : Int32)).toNatClampNeg ((S.2.2 44) (a1 + (1 : Int32)).toNatClampNeg)) (((5 : Int32) * (S.1 42 5)) + (2 : Int32)).toNatClampNeg ((S.2.2 44) (a1 + (2 : Int32)).toNatClampNeg)) (((5 : Int32) * (S.1 42 5)) + (3 : Int32)).toNatClampNeg ((S.2.2 44) (a1 + (3 : Int32)).toNatClampNeg)) (((5 : Int32) * (S.1 42 5)) + (4 : Int32)).toNatClampNeg ((S.2.2 44) (a1 + (4 : Int32)).toNatClampNeg))) 42 5 ((S.1 42 5) + (1 : Int32)))) else none) else none) else none) else none) else none) else none) else none)) else (if ((S.2.2 44) a1.toNatClampNeg) = (1 : Int32) then (if (30 : Int32) ≤ (S.1 42 5) then some (S) else (if aIx a1 50 = true then (if aIx ((5 : Int32) * (S.1 42 5)) 150 = true then (if aIx (((5 : Int32) * (S.1 42 5)) + (1 : Int32)) 150 = true then (if aIx (((5 : Int32) * (S.1 42 5)) + (2 : Int32)) 150 = true then (if aIx (((5 : Int32) * (S.1 42 5)) + (3 : Int32)) 150 = true then (if aIx (a1 + (4 : Int32)) 50 = true then (if aIx (((5 : Int32) * (S.1 42 5)) + (4 : Int32)) 150 = true then some ((aI (aA (aA (aA (aA (aA S 45 (upd (S.2.2 45) ((5 : Int32) * (S.1 42 5)).toNatClampNeg ((S.2.2 44) a1.toNatClampNeg))) 45 (upd (upd (S.2.2 45) ((5 : Int32) * (S.1 42 5)).toNatClampNeg ((S.2.2 44) a1.toNatClampNeg)) (((5 : Int32) * (S.1 42 5)) + (1 : Int32)).toNatClampNeg ((S.2.2 44) (a1 + (1 : Int32)).toNatClampNeg))) 45 (upd (upd (upd (S.2.2 45) ((5 : Int32) * (S.1 42 5)).toNatClampNeg ((S.2.2 44) a1.toNatClampNeg)) (((5 : Int32) * (S.1 42 5)) + (1 : Int32)).toNatClampNeg ((S.2.2 44) (a1 + (1 : Int32)).toNatClampNeg)) (((5 : Int32) * (S.1 42 5)) + (2 : Int32)).toNatClampNeg ((S.2.2 44) (a1 + (2 : Int32)).toNatClampNeg))) 45 (upd (upd (upd (upd (S.2.2 45) ((5 : Int32) * (S.1 42 5)).toNatClampNeg ((S.2.2 44) a1.toNatClampNeg)) (((5 : Int32) * (S.1 42 5)) + (1 : Int32)).toNatClampNeg ((S.2.2 44) (a1 + (1 : Int32)).toNatClampNeg)) (((5 : Int32) * (S.1 42 5)) + (2 : Int32)).toNatClampNeg ((S.2.2 44) (a1 + (2 : Int32)).toNatClampNeg)) (((5 : Int32) * (S.1 42 5)) + (3 : Int32)).toNatClampNeg ((S.2.2 44) (a1 + (3 : Int32)).toNatClampNeg))) 45 (upd (upd (upd (upd (upd (S.2.2 45) ((5 : Int32) * (S.1 42 5)).toNatClampNeg ((S.2.2 44) a1.toNatClampNeg)) (((5 : Int32) * (S.1 42 5)) + (1 : Int32)).toNatClampNeg ((S.2.2 44) (a1 + (1 : Int32)).toNatClampNeg)) (((5 : Int32) * (S.1 42 5)) + (2 : Int32)).toNatClampNeg ((S.2.2 44) (a1 + (2 : Int32)).toNatClampNeg)) (((5 : Int32) * (S.1 42 5)) + (3 : Int32)).toNatClampNeg ((S.2.2 44) (a1 + (3 : Int32)).toNatClampNeg)) (((5 : Int32) * (S.1 42 5)) + (4 : Int32)).toNatClampNeg ((S.2.2 44) (a1 + (4 : Int32)).toNatClampNeg))) 42 5 ((S.1 42 5) + (1 : Int32)))) else none) else none) else none) else none) else none) else none) else none)) else (if ((S.2.2 44) a1.toNatClampNeg) = (2 : Int32) then (if aIx (((5 : Int32) * ((S.2.2 44) (a1 + (1 : Int32)).toNatClampNeg)) + ((S.2.2 44) (a1 + (2 : Int32)).toNatClampNeg)) 20 = true then some ((aA S 47 (upd (S.2.2 47) (((5 : Int32) * ((S.2.2 44) (a1 + (1 : Int32)).toNatClampNeg)) + ((S.2.2 44) (a1 + (2 : Int32)).toNatClampNeg)).toNatClampNeg ((S.2.2 44) (a1 + (3 : Int32)).toNatClampNeg)))) else none) else (if ((S.2.2 44) a1.toNatClampNeg) = (3 : Int32) then (if aIx (((10 : Int32) * ((S.2.2 44) (a1 + (1 : Int32)).toNatClampNeg)) + ((S.2.2 44) (a1 + (2 : Int32)).toNatClampNeg)) 100 = true then some ((aA S 48 (upd (S.2.2 48) (((10 : Int32) * ((S.2.2 44) (a1 + (1 : Int32)).toNatClampNeg)) + ((S.2.2 44) (a1 + (2 : Int32)).toNatClampNeg)).toNatClampNeg ((S.2.2 44) (a1 + (3 : Int32)).toNatClampNeg)))) else none) else (if ((S.2.2 44) a1.toNatClampNeg) = (4 : Int32) then some ((aI S 42 10 ((S.2.2 44) (a1 + (1 : Int32)).toNatClampNeg))) else (if ((S.2.2 44) a1.toNatClampNeg) = (5 : Int32) then some ((aI S 42 11 ((S.2.2 44) (a1 + (1 : Int32)).toNatClampNeg))) else (if ((S.2.2 44) a1.toNatClampNeg) = (6 : Int32) then some ((aI S 42 12 ((S.2.2 44) (a1 + (1 : Int32)).toNatClampNeg))) else none)))))))) else none) else none) else none) else none)
set_option maxHeartbeats 4000000 in
set_option maxRecDepth 100000 in
theorem J_X11_lay_42 (l : Launch) (g : aWg) (N : Nat) (a1 : Int32) (S : aSt) {r : aSt} (hf : X11_lay_42 N a1 S = (some r)) : aJ l g yX11_lay M_X11_lay [.ref 42, .int a1] LAY S none LAY r 0 0 := by
  refine aJ_of (by decide +kernel) rfl (Nat.le_of_ble_eq_true rfl) (fun h => nomatch h) ?_
  intro C hg hl hC hz hF
  subst hg; subst hl
  have hT := ok_X11_lay
  unfold X11_lay_42 at hf
  show aX C M_X11_lay 0 0 (0, [(0, .ref 42), (1, .int a1)], [], LAY, S)
  refine aRun_ok hC hT 5 (cf' := (7, [(0, .ref 42), (1, .int a1)], [.int (a1 + (1 : Int32)), .ref 44], LAY, S)) (by rfl) ?_
  obtain ⟨hin1, hf⟩ := aGdE hf
  refine aIald hC hT rfl (by decide) (by rfl) hin1 ?_
  refine aRun_ok hC hT 6 (cf' := (16, [(2, .int ((S.2.2 44) (a1 + (1 : Int32)).toNatClampNeg)), (0, .ref 42), (1, .int a1)], [.int (a1 + (2 : Int32)), .ref 44], LAY, S)) (by rfl) ?_
  obtain ⟨hin2, hf⟩ := aGdE hf
  refine aIald hC hT rfl (by decide) (by rfl) hin2 ?_
  refine aRun_ok hC hT 6 (cf' := (25, [(3, .int ((S.2.2 44) (a1 + (2 : Int32)).toNatClampNeg)), (2, .int ((S.2.2 44) (a1 + (1 : Int32)).toNatClampNeg)), (0, .ref 42), (1, .int a1)], [.int (a1 + (3 : Int32)), .ref 44], LAY, S)) (by rfl) ?_
  obtain ⟨hin3, hf⟩ := aGdE hf
  refine aIald hC hT rfl (by decide) (by rfl) hin3 ?_
  refine aRun_ok hC hT 4 (cf' := (33, [(4, .int ((S.2.2 44) (a1 + (3 : Int32)).toNatClampNeg)), (3, .int ((S.2.2 44) (a1 + (2 : Int32)).toNatClampNeg)), (2, .int ((S.2.2 44) (a1 + (1 : Int32)).toNatClampNeg)), (0, .ref 42), (1, .int a1)], [.int a1, .ref 44], LAY, S)) (by rfl) ?_
  obtain ⟨hin4, hf⟩ := aGdE hf
  refine aIald hC hT rfl (by decide) (by rfl) hin4 ?_
  rcases aTswE hf with ⟨hc5, hf⟩ | ⟨hc5, hf⟩
  · refine aTswD hC hT (tgt := 222) rfl hc5 (by decide) ?_
    refine aRun_ok hC hT 3 (cf' := (225, [(4, .int ((S.2.2 44) (a1 + (3 : Int32)).toNatClampNeg)), (3, .int ((S.2.2 44) (a1 + (2 : Int32)).toNatClampNeg)), (2, .int ((S.2.2 44) (a1 + (1 : Int32)).toNatClampNeg)), (0, .ref 42), (1, .int a1)], [.int (2 : Int32), .int ((S.2.2 44) (a1 + (2 : Int32)).toNatClampNeg), .ref 42], LAY, S)) (by rfl) ?_
    refine aCmp_ne hC hT (tgt := 241) rfl (by decide) (fun hc6 => ?_) (fun hc6 => ?_)
    · have hf := aIfF hf hc6
      refine aRun_ok hC hT 6 (cf' := (249, [(4, .int ((S.2.2 44) (a1 + (3 : Int32)).toNatClampNeg)), (3, .int ((S.2.2 44) (a1 + (2 : Int32)).toNatClampNeg)), (2, .int ((S.2.2 44) (a1 + (1 : Int32)).toNatClampNeg)), (0, .ref 42), (1, .int a1)], [.int ((S.1 42 7) ||| ((1 : Int32) <<< (((S.2.2 44) (a1 + (1 : Int32)).toNatClampNeg) &&& 31))), .ref 42], LAY, S)) (by rfl) ?_
      refine aLocs [3, 2, 1, 0] (lv' := [(0, .ref 42), (2, .int ((S.2.2 44) (a1 + (1 : Int32)).toNatClampNeg)), (3, .int ((S.2.2 44) (a1 + (2 : Int32)).toNatClampNeg)), (4, .int ((S.2.2 44) (a1 + (3 : Int32)).toNatClampNeg))]) rfl ?_
      exact X11_lay_42_b249_ok hC hF ((S.2.2 44) (a1 + (1 : Int32)).toNatClampNeg) ((S.2.2 44) (a1 + (2 : Int32)).toNatClampNeg) ((S.2.2 44) (a1 + (3 : Int32)).toNatClampNeg) ((S.1 42 7) ||| ((1 : Int32) <<< (((S.2.2 44) (a1 + (1 : Int32)).toNatClampNeg) &&& 31))) S hf
    · have hf := aIfT hf hc6
      refine aRun_ok hC hT 9 (cf' := (249, [(4, .int ((S.2.2 44) (a1 + (3 : Int32)).toNatClampNeg)), (3, .int ((S.2.2 44) (a1 + (2 : Int32)).toNatClampNeg)), (2, .int ((S.2.2 44) (a1 + (1 : Int32)).toNatClampNeg)), (0, .ref 42), (1, .int a1)], [.int ((S.1 42 7) &&& (((1 : Int32) <<< (((S.2.2 44) (a1 + (1 : Int32)).toNatClampNeg) &&& 31)) ^^^ ((-1) : Int32))), .ref 42], LAY, S)) (by rfl) ?_
      refine aLocs [3, 2, 1, 0] (lv' := [(0, .ref 42), (2, .int ((S.2.2 44) (a1 + (1 : Int32)).toNatClampNeg)), (3, .int ((S.2.2 44) (a1 + (2 : Int32)).toNatClampNeg)), (4, .int ((S.2.2 44) (a1 + (3 : Int32)).toNatClampNeg))]) rfl ?_
      exact X11_lay_42_b249_ok hC hF ((S.2.2 44) (a1 + (1 : Int32)).toNatClampNeg) ((S.2.2 44) (a1 + (2 : Int32)).toNatClampNeg) ((S.2.2 44) (a1 + (3 : Int32)).toNatClampNeg) ((S.1 42 7) &&& (((1 : Int32) <<< (((S.2.2 44) (a1 + (1 : Int32)).toNatClampNeg) &&& 31)) ^^^ ((-1) : Int32))) S hf
  · rcases aIfE hf with ⟨hc10, hf⟩ | ⟨-, hf⟩
    · refine aTsw hC hT (off := 42) (tgt := 76) rfl (0 : Int32) hc10 (by decide) (by decide) (by rfl) (by decide) ?_
      refine aRun_ok hC hT 3 (cf' := (82, [(4, .int ((S.2.2 44) (a1 + (3 : Int32)).toNatClampNeg)), (3, .int ((S.2.2 44) (a1 + (2 : Int32)).toNatClampNeg)), (2, .int ((S.2.2 44) (a1 + (1 : Int32)).toNatClampNeg)), (0, .ref 42), (1, .int a1)], [.int (30 : Int32), .int (S.1 42 5)], LAY, S)) (by rfl) ?_
      refine aCmp_ge hC hT (tgt := 176) rfl (by decide) (fun hc11 => ?_) (fun hc11 => ?_)
      · have hf := aIfT hf hc11
        have e9 := Option.some.inj hf; subst e9
        exact aRetV hC hT hF rfl rfl
      · have hf := aIfF hf hc11
        refine aRun_ok hC hT 9 (cf' := (100, [(4, .int ((S.2.2 44) (a1 + (3 : Int32)).toNatClampNeg)), (3, .int ((S.2.2 44) (a1 + (2 : Int32)).toNatClampNeg)), (2, .int ((S.2.2 44) (a1 + (1 : Int32)).toNatClampNeg)), (0, .ref 42), (1, .int a1)], [.int a1, .ref 44, .int ((5 : Int32) * (S.1 42 5)), .ref 45], LAY, S)) (by rfl) ?_
        obtain ⟨hin12, hf⟩ := aGdE hf
        refine aIald hC hT rfl (by decide) (by rfl) hin12 ?_
        obtain ⟨hin13, hf⟩ := aGdE hf
        refine aIast hC hT rfl (by decide) (by rfl) hin13 ?_
        refine aRun_ok hC hT 9 (cf' := (115, [(4, .int ((S.2.2 44) (a1 + (3 : Int32)).toNatClampNeg)), (3, .int ((S.2.2 44) (a1 + (2 : Int32)).toNatClampNeg)), (2, .int ((S.2.2 44) (a1 + (1 : Int32)).toNatClampNeg)), (0, .ref 42), (1, .int a1)], [.int ((S.2.2 44) (a1 + (1 : Int32)).toNatClampNeg), .int (((5 : Int32) * (S.1 42 5)) + (1 : Int32)), .ref 45], LAY, (aA S 45 (upd (S.2.2 45) ((5 : Int32) * (S.1 42 5)).toNatClampNeg ((S.2.2 44) a1.toNatClampNeg))))) (by rfl) ?_
        obtain ⟨hin14, hf⟩ := aGdE hf
        refine aIast hC hT rfl (by decide) (by rfl) hin14 ?_
        refine aRun_ok hC hT 9 (cf' := (129, [(4, .int ((S.2.2 44) (a1 + (3 : Int32)).toNatClampNeg)), (3, .int ((S.2.2 44) (a1 + (2 : Int32)).toNatClampNeg)), (2, .int ((S.2.2 44) (a1 + (1 : Int32)).toNatClampNeg)), (0, .ref 42), (1, .int a1)], [.int ((S.2.2 44) (a1 + (2 : Int32)).toNatClampNeg), .int (((5 : Int32) * (S.1 42 5)) + (2 : Int32)), .ref 45], LAY, (aA (aA S 45 (upd (S.2.2 45) ((5 : Int32) * (S.1 42 5)).toNatClampNeg ((S.2.2 44) a1.toNatClampNeg))) 45 (upd (upd (S.2.2 45) ((5 : Int32) * (S.1 42 5)).toNatClampNeg ((S.2.2 44) a1.toNatClampNeg)) (((5 : Int32) * (S.1 42 5)) + (1 : Int32)).toNatClampNeg ((S.2.2 44) (a1 + (1 : Int32)).toNatClampNeg))))) (by rfl) ?_
        obtain ⟨hin15, hf⟩ := aGdE hf
        refine aIast hC hT rfl (by decide) (by rfl) hin15 ?_
        refine aRun_ok hC hT 9 (cf' := (144, [(4, .int ((S.2.2 44) (a1 + (3 : Int32)).toNatClampNeg)), (3, .int ((S.2.2 44) (a1 + (2 : Int32)).toNatClampNeg)), (2, .int ((S.2.2 44) (a1 + (1 : Int32)).toNatClampNeg)), (0, .ref 42), (1, .int a1)], [.int ((S.2.2 44) (a1 + (3 : Int32)).toNatClampNeg), .int (((5 : Int32) * (S.1 42 5)) + (3 : Int32)), .ref 45], LAY, (aA (aA (aA S 45 (upd (S.2.2 45) ((5 : Int32) * (S.1 42 5)).toNatClampNeg ((S.2.2 44) a1.toNatClampNeg))) 45 (upd (upd (S.2.2 45) ((5 : Int32) * (S.1 42 5)).toNatClampNeg ((S.2.2 44) a1.toNatClampNeg)) (((5 : Int32) * (S.1 42 5)) + (1 : Int32)).toNatClampNeg ((S.2.2 44) (a1 + (1 : Int32)).toNatClampNeg))) 45 (upd (upd (upd (S.2.2 45) ((5 : Int32) * (S.1 42 5)).toNatClampNeg ((S.2.2 44) a1.toNatClampNeg)) (((5 : Int32) * (S.1 42 5)) + (1 : Int32)).toNatClampNeg ((S.2.2 44) (a1 + (1 : Int32)).toNatClampNeg)) (((5 : Int32) * (S.1 42 5)) + (2 : Int32)).toNatClampNeg ((S.2.2 44) (a1 + (2 : Int32)).toNatClampNeg))))) (by rfl) ?_
        obtain ⟨hin16, hf⟩ := aGdE hf
        refine aIast hC hT rfl (by decide) (by rfl) hin16 ?_
        refine aRun_ok hC hT 13 (cf' := (164, [(4, .int ((S.2.2 44) (a1 + (3 : Int32)).toNatClampNeg)), (3, .int ((S.2.2 44) (a1 + (2 : Int32)).toNatClampNeg)), (2, .int ((S.2.2 44) (a1 + (1 : Int32)).toNatClampNeg)), (0, .ref 42), (1, .int a1)], [.int (a1 + (4 : Int32)), .ref 44, .int (((5 : Int32) * (S.1 42 5)) + (4 : Int32)), .ref 45], LAY, (aA (aA (aA (aA S 45 (upd (S.2.2 45) ((5 : Int32) * (S.1 42 5)).toNatClampNeg ((S.2.2 44) a1.toNatClampNeg))) 45 (upd (upd (S.2.2 45) ((5 : Int32) * (S.1 42 5)).toNatClampNeg ((S.2.2 44) a1.toNatClampNeg)) (((5 : Int32) * (S.1 42 5)) + (1 : Int32)).toNatClampNeg ((S.2.2 44) (a1 + (1 : Int32)).toNatClampNeg))) 45 (upd (upd (upd (S.2.2 45) ((5 : Int32) * (S.1 42 5)).toNatClampNeg ((S.2.2 44) a1.toNatClampNeg)) (((5 : Int32) * (S.1 42 5)) + (1 : Int32)).toNatClampNeg ((S.2.2 44) (a1 + (1 : Int32)).toNatClampNeg)) (((5 : Int32) * (S.1 42 5)) + (2 : Int32)).toNatClampNeg ((S.2.2 44) (a1 + (2 : Int32)).toNatClampNeg))) 45 (upd (upd (upd (upd (S.2.2 45) ((5 : Int32) * (S.1 42 5)).toNatClampNeg ((S.2.2 44) a1.toNatClampNeg)) (((5 : Int32) * (S.1 42 5)) + (1 : Int32)).toNatClampNeg ((S.2.2 44) (a1 + (1 : Int32)).toNatClampNeg)) (((5 : Int32) * (S.1 42 5)) + (2 : Int32)).toNatClampNeg ((S.2.2 44) (a1 + (2 : Int32)).toNatClampNeg)) (((5 : Int32) * (S.1 42 5)) + (3 : Int32)).toNatClampNeg ((S.2.2 44) (a1 + (3 : Int32)).toNatClampNeg))))) (by rfl) ?_
        obtain ⟨hin17, hf⟩ := aGdE hf
        refine aIald hC hT rfl (by decide) (by rfl) hin17 ?_
        obtain ⟨hin18, hf⟩ := aGdE hf
        refine aIast hC hT rfl (by decide) (by rfl) hin18 ?_
        refine aRun_ok hC hT 6 (cf' := (176, [(4, .int ((S.2.2 44) (a1 + (3 : Int32)).toNatClampNeg)), (3, .int ((S.2.2 44) (a1 + (2 : Int32)).toNatClampNeg)), (2, .int ((S.2.2 44) (a1 + (1 : Int32)).toNatClampNeg)), (0, .ref 42), (1, .int a1)], [], LAY, (aI (aA (aA (aA (aA (aA S 45 (upd (S.2.2 45) ((5 : Int32) * (S.1 42 5)).toNatClampNeg ((S.2.2 44) a1.toNatClampNeg))) 45 (upd (upd (S.2.2 45) ((5 : Int32) * (S.1 42 5)).toNatClampNeg ((S.2.2 44) a1.toNatClampNeg)) (((5 : Int32) * (S.1 42 5)) + (1 : Int32)).toNatClampNeg ((S.2.2 44) (a1 + (1 : Int32)).toNatClampNeg))) 45 (upd (upd (upd (S.2.2 45) ((5 : Int32) * (S.1 42 5)).toNatClampNeg ((S.2.2 44) a1.toNatClampNeg)) (((5 : Int32) * (S.1 42 5)) + (1 : Int32)).toNatClampNeg ((S.2.2 44) (a1 + (1 : Int32)).toNatClampNeg)) (((5 : Int32) * (S.1 42 5)) + (2 : Int32)).toNatClampNeg ((S.2.2 44) (a1 + (2 : Int32)).toNatClampNeg))) 45 (upd (upd (upd (upd (S.2.2 45) ((5 : Int32) * (S.1 42 5)).toNatClampNeg ((S.2.2 44) a1.toNatClampNeg)) (((5 : Int32) * (S.1 42 5)) + (1 : Int32)).toNatClampNeg ((S.2.2 44) (a1 + (1 : Int32)).toNatClampNeg)) (((5 : Int32) * (S.1 42 5)) + (2 : Int32)).toNatClampNeg ((S.2.2 44) (a1 + (2 : Int32)).toNatClampNeg)) (((5 : Int32) * (S.1 42 5)) + (3 : Int32)).toNatClampNeg ((S.2.2 44) (a1 + (3 : Int32)).toNatClampNeg))) 45 (upd (upd (upd (upd (upd (S.2.2 45) ((5 : Int32) * (S.1 42 5)).toNatClampNeg ((S.2.2 44) a1.toNatClampNeg)) (((5 : Int32) * (S.1 42 5)) + (1 : Int32)).toNatClampNeg ((S.2.2 44) (a1 + (1 : Int32)).toNatClampNeg)) (((5 : Int32) * (S.1 42 5)) + (2 : Int32)).toNatClampNeg ((S.2.2 44) (a1 + (2 : Int32)).toNatClampNeg)) (((5 : Int32) * (S.1 42 5)) + (3 : Int32)).toNatClampNeg ((S.2.2 44) (a1 + (3 : Int32)).toNatClampNeg)) (((5 : Int32) * (S.1 42 5)) + (4 : Int32)).toNatClampNeg ((S.2.2 44) (a1 + (4 : Int32)).toNatClampNeg))) 42 5 ((S.1 42 5) + (1 : Int32))))) (by rfl) ?_
        have e9 := Option.some.inj hf; subst e9
        exact aRetV hC hT hF rfl rfl
    · rcases aIfE hf with ⟨hc19, hf⟩ | ⟨-, hf⟩
      · refine aTsw hC hT (off := 42) (tgt := 76) rfl (1 : Int32) hc19 (by decide) (by decide) (by rfl) (by decide) ?_
        refine aRun_ok hC hT 3 (cf' := (82, [(4, .int ((S.2.2 44) (a1 + (3 : Int32)).toNatClampNeg)), (3, .int ((S.2.2 44) (a1 + (2 : Int32)).toNatClampNeg)), (2, .int ((S.2.2 44) (a1 + (1 : Int32)).toNatClampNeg)), (0, .ref 42), (1, .int a1)], [.int (30 : Int32), .int (S.1 42 5)], LAY, S)) (by rfl) ?_
        refine aCmp_ge hC hT (tgt := 176) rfl (by decide) (fun hc20 => ?_) (fun hc20 => ?_)
        · have hf := aIfT hf hc20
          have e9 := Option.some.inj hf; subst e9
          exact aRetV hC hT hF rfl rfl
        · have hf := aIfF hf hc20
          refine aRun_ok hC hT 9 (cf' := (100, [(4, .int ((S.2.2 44) (a1 + (3 : Int32)).toNatClampNeg)), (3, .int ((S.2.2 44) (a1 + (2 : Int32)).toNatClampNeg)), (2, .int ((S.2.2 44) (a1 + (1 : Int32)).toNatClampNeg)), (0, .ref 42), (1, .int a1)], [.int a1, .ref 44, .int ((5 : Int32) * (S.1 42 5)), .ref 45], LAY, S)) (by rfl) ?_
          obtain ⟨hin21, hf⟩ := aGdE hf
          refine aIald hC hT rfl (by decide) (by rfl) hin21 ?_
          obtain ⟨hin22, hf⟩ := aGdE hf
          refine aIast hC hT rfl (by decide) (by rfl) hin22 ?_
          refine aRun_ok hC hT 9 (cf' := (115, [(4, .int ((S.2.2 44) (a1 + (3 : Int32)).toNatClampNeg)), (3, .int ((S.2.2 44) (a1 + (2 : Int32)).toNatClampNeg)), (2, .int ((S.2.2 44) (a1 + (1 : Int32)).toNatClampNeg)), (0, .ref 42), (1, .int a1)], [.int ((S.2.2 44) (a1 + (1 : Int32)).toNatClampNeg), .int (((5 : Int32) * (S.1 42 5)) + (1 : Int32)), .ref 45], LAY, (aA S 45 (upd (S.2.2 45) ((5 : Int32) * (S.1 42 5)).toNatClampNeg ((S.2.2 44) a1.toNatClampNeg))))) (by rfl) ?_
          obtain ⟨hin23, hf⟩ := aGdE hf
          refine aIast hC hT rfl (by decide) (by rfl) hin23 ?_
          refine aRun_ok hC hT 9 (cf' := (129, [(4, .int ((S.2.2 44) (a1 + (3 : Int32)).toNatClampNeg)), (3, .int ((S.2.2 44) (a1 + (2 : Int32)).toNatClampNeg)), (2, .int ((S.2.2 44) (a1 + (1 : Int32)).toNatClampNeg)), (0, .ref 42), (1, .int a1)], [.int ((S.2.2 44) (a1 + (2 : Int32)).toNatClampNeg), .int (((5 : Int32) * (S.1 42 5)) + (2 : Int32)), .ref 45], LAY, (aA (aA S 45 (upd (S.2.2 45) ((5 : Int32) * (S.1 42 5)).toNatClampNeg ((S.2.2 44) a1.toNatClampNeg))) 45 (upd (upd (S.2.2 45) ((5 : Int32) * (S.1 42 5)).toNatClampNeg ((S.2.2 44) a1.toNatClampNeg)) (((5 : Int32) * (S.1 42 5)) + (1 : Int32)).toNatClampNeg ((S.2.2 44) (a1 + (1 : Int32)).toNatClampNeg))))) (by rfl) ?_
          obtain ⟨hin24, hf⟩ := aGdE hf
          refine aIast hC hT rfl (by decide) (by rfl) hin24 ?_
          refine aRun_ok hC hT 9 (cf' := (144, [(4, .int ((S.2.2 44) (a1 + (3 : Int32)).toNatClampNeg)), (3, .int ((S.2.2 44) (a1 + (2 : Int32)).toNatClampNeg)), (2, .int ((S.2.2 44) (a1 + (1 : Int32)).toNatClampNeg)), (0, .ref 42), (1, .int a1)], [.int ((S.2.2 44) (a1 + (3 : Int32)).toNatClampNeg), .int (((5 : Int32) * (S.1 42 5)) + (3 : Int32)), .ref 45], LAY, (aA (aA (aA S 45 (upd (S.2.2 45) ((5 : Int32) * (S.1 42 5)).toNatClampNeg ((S.2.2 44) a1.toNatClampNeg))) 45 (upd (upd (S.2.2 45) ((5 : Int32) * (S.1 42 5)).toNatClampNeg ((S.2.2 44) a1.toNatClampNeg)) (((5 : Int32) * (S.1 42 5)) + (1 : Int32)).toNatClampNeg ((S.2.2 44) (a1 + (1 : Int32)).toNatClampNeg))) 45 (upd (upd (upd (S.2.2 45) ((5 : Int32) * (S.1 42 5)).toNatClampNeg ((S.2.2 44) a1.toNatClampNeg)) (((5 : Int32) * (S.1 42 5)) + (1 : Int32)).toNatClampNeg ((S.2.2 44) (a1 + (1 : Int32)).toNatClampNeg)) (((5 : Int32) * (S.1 42 5)) + (2 : Int32)).toNatClampNeg ((S.2.2 44) (a1 + (2 : Int32)).toNatClampNeg))))) (by rfl) ?_
          obtain ⟨hin25, hf⟩ := aGdE hf
          refine aIast hC hT rfl (by decide) (by rfl) hin25 ?_
          refine aRun_ok hC hT 13 (cf' := (164, [(4, .int ((S.2.2 44) (a1 + (3 : Int32)).toNatClampNeg)), (3, .int ((S.2.2 44) (a1 + (2 : Int32)).toNatClampNeg)), (2, .int ((S.2.2 44) (a1 + (1 : Int32)).toNatClampNeg)), (0, .ref 42), (1, .int a1)], [.int (a1 + (4 : Int32)), .ref 44, .int (((5 : Int32) * (S.1 42 5)) + (4 : Int32)), .ref 45], LAY, (aA (aA (aA (aA S 45 (upd (S.2.2 45) ((5 : Int32) * (S.1 42 5)).toNatClampNeg ((S.2.2 44) a1.toNatClampNeg))) 45 (upd (upd (S.2.2 45) ((5 : Int32) * (S.1 42 5)).toNatClampNeg ((S.2.2 44) a1.toNatClampNeg)) (((5 : Int32) * (S.1 42 5)) + (1 : Int32)).toNatClampNeg ((S.2.2 44) (a1 + (1 : Int32)).toNatClampNeg))) 45 (upd (upd (upd (S.2.2 45) ((5 : Int32) * (S.1 42 5)).toNatClampNeg ((S.2.2 44) a1.toNatClampNeg)) (((5 : Int32) * (S.1 42 5)) + (1 : Int32)).toNatClampNeg ((S.2.2 44) (a1 + (1 : Int32)).toNatClampNeg)) (((5 : Int32) * (S.1 42 5)) + (2 : Int32)).toNatClampNeg ((S.2.2 44) (a1 + (2 : Int32)).toNatClampNeg))) 45 (upd (upd (upd (upd (S.2.2 45) ((5 : Int32) * (S.1 42 5)).toNatClampNeg ((S.2.2 44) a1.toNatClampNeg)) (((5 : Int32) * (S.1 42 5)) + (1 : Int32)).toNatClampNeg ((S.2.2 44) (a1 + (1 : Int32)).toNatClampNeg)) (((5 : Int32) * (S.1 42 5)) + (2 : Int32)).toNatClampNeg ((S.2.2 44) (a1 + (2 : Int32)).toNatClampNeg)) (((5 : Int32) * (S.1 42 5)) + (3 : Int32)).toNatClampNeg ((S.2.2 44) (a1 + (3 : Int32)).toNatClampNeg))))) (by rfl) ?_
          obtain ⟨hin26, hf⟩ := aGdE hf
          refine aIald hC hT rfl (by decide) (by rfl) hin26 ?_
          obtain ⟨hin27, hf⟩ := aGdE hf
          refine aIast hC hT rfl (by decide) (by rfl) hin27 ?_
          refine aRun_ok hC hT 6 (cf' := (176, [(4, .int ((S.2.2 44) (a1 + (3 : Int32)).toNatClampNeg)), (3, .int ((S.2.2 44) (a1 + (2 : Int32)).toNatClampNeg)), (2, .int ((S.2.2 44) (a1 + (1 : Int32)).toNatClampNeg)), (0, .ref 42), (1, .int a1)], [], LAY, (aI (aA (aA (aA (aA (aA S 45 (upd (S.2.2 45) ((5 : Int32) * (S.1 42 5)).toNatClampNeg ((S.2.2 44) a1.toNatClampNeg))) 45 (upd (upd (S.2.2 45) ((5 : Int32) * (S.1 42 5)).toNatClampNeg ((S.2.2 44) a1.toNatClampNeg)) (((5 : Int32) * (S.1 42 5)) + (1 : Int32)).toNatClampNeg ((S.2.2 44) (a1 + (1 : Int32)).toNatClampNeg))) 45 (upd (upd (upd (S.2.2 45) ((5 : Int32) * (S.1 42 5)).toNatClampNeg ((S.2.2 44) a1.toNatClampNeg)) (((5 : Int32) * (S.1 42 5)) + (1 : Int32)).toNatClampNeg ((S.2.2 44) (a1 + (1 : Int32)).toNatClampNeg)) (((5 : Int32) * (S.1 42 5)) + (2 : Int32)).toNatClampNeg ((S.2.2 44) (a1 + (2 : Int32)).toNatClampNeg))) 45 (upd (upd (upd (upd (S.2.2 45) ((5 : Int32) * (S.1 42 5)).toNatClampNeg ((S.2.2 44) a1.toNatClampNeg)) (((5 : Int32) * (S.1 42 5)) + (1 : Int32)).toNatClampNeg ((S.2.2 44) (a1 + (1 : Int32)).toNatClampNeg)) (((5 : Int32) * (S.1 42 5)) + (2 : Int32)).toNatClampNeg ((S.2.2 44) (a1 + (2 : Int32)).toNatClampNeg)) (((5 : Int32) * (S.1 42 5)) + (3 : Int32)).toNatClampNeg ((S.2.2 44) (a1 + (3 : Int32)).toNatClampNeg))) 45 (upd (upd (upd (upd (upd (S.2.2 45) ((5 : Int32) * (S.1 42 5)).toNatClampNeg ((S.2.2 44) a1.toNatClampNeg)) (((5 : Int32) * (S.1 42 5)) + (1 : Int32)).toNatClampNeg ((S.2.2 44) (a1 + (1 : Int32)).toNatClampNeg)) (((5 : Int32) * (S.1 42 5)) + (2 : Int32)).toNatClampNeg ((S.2.2 44) (a1 + (2 : Int32)).toNatClampNeg)) (((5 : Int32) * (S.1 42 5)) + (3 : Int32)).toNatClampNeg ((S.2.2 44) (a1 + (3 : Int32)).toNatClampNeg)) (((5 : Int32) * (S.1 42 5)) + (4 : Int32)).toNatClampNeg ((S.2.2 44) (a1 + (4 : Int32)).toNatClampNeg))) 42 5 ((S.1 42 5) + (1 : Int32))))) (by rfl) ?_
          have e9 := Option.some.inj hf; subst e9
          exact aRetV hC hT hF rfl rfl
      · rcases aIfE hf with ⟨hc28, hf⟩ | ⟨-, hf⟩
        · refine aTsw hC hT (off := 143) (tgt := 177) rfl (2 : Int32) hc28 (by decide) (by decide) (by rfl) (by decide) ?_
          refine aRun_ok hC hT 8 (cf' := (188, [(4, .int ((S.2.2 44) (a1 + (3 : Int32)).toNatClampNeg)), (3, .int ((S.2.2 44) (a1 + (2 : Int32)).toNatClampNeg)), (2, .int ((S.2.2 44) (a1 + (1 : Int32)).toNatClampNeg)), (0, .ref 42), (1, .int a1)], [.int ((S.2.2 44) (a1 + (3 : Int32)).toNatClampNeg), .int (((5 : Int32) * ((S.2.2 44) (a1 + (1 : Int32)).toNatClampNeg)) + ((S.2.2 44) (a1 + (2 : Int32)).toNatClampNeg)), .ref 47], LAY, S)) (by rfl) ?_
          obtain ⟨hin29, hf⟩ := aGdE hf
          refine aIast hC hT rfl (by decide) (by rfl) hin29 ?_
          have e9 := Option.some.inj hf; subst e9
          exact aRetV hC hT hF rfl rfl
        · rcases aIfE hf with ⟨hc30, hf⟩ | ⟨-, hf⟩
          · refine aTsw hC hT (off := 156) (tgt := 190) rfl (3 : Int32) hc30 (by decide) (by decide) (by rfl) (by decide) ?_
            refine aRun_ok hC hT 8 (cf' := (202, [(4, .int ((S.2.2 44) (a1 + (3 : Int32)).toNatClampNeg)), (3, .int ((S.2.2 44) (a1 + (2 : Int32)).toNatClampNeg)), (2, .int ((S.2.2 44) (a1 + (1 : Int32)).toNatClampNeg)), (0, .ref 42), (1, .int a1)], [.int ((S.2.2 44) (a1 + (3 : Int32)).toNatClampNeg), .int (((10 : Int32) * ((S.2.2 44) (a1 + (1 : Int32)).toNatClampNeg)) + ((S.2.2 44) (a1 + (2 : Int32)).toNatClampNeg)), .ref 48], LAY, S)) (by rfl) ?_
            obtain ⟨hin31, hf⟩ := aGdE hf
            refine aIast hC hT rfl (by decide) (by rfl) hin31 ?_
            have e9 := Option.some.inj hf; subst e9
            exact aRetV hC hT hF rfl rfl
          · rcases aIfE hf with ⟨hc32, hf⟩ | ⟨-, hf⟩
            · refine aTsw hC hT (off := 170) (tgt := 204) rfl (4 : Int32) hc32 (by decide) (by decide) (by rfl) (by decide) ?_
              refine aRun_ok hC hT 3 (cf' := (209, [(4, .int ((S.2.2 44) (a1 + (3 : Int32)).toNatClampNeg)), (3, .int ((S.2.2 44) (a1 + (2 : Int32)).toNatClampNeg)), (2, .int ((S.2.2 44) (a1 + (1 : Int32)).toNatClampNeg)), (0, .ref 42), (1, .int a1)], [], LAY, (aI S 42 10 ((S.2.2 44) (a1 + (1 : Int32)).toNatClampNeg)))) (by rfl) ?_
              have e9 := Option.some.inj hf; subst e9
              exact aRetV hC hT hF rfl rfl
            · rcases aIfE hf with ⟨hc33, hf⟩ | ⟨-, hf⟩
              · refine aTsw hC hT (off := 176) (tgt := 210) rfl (5 : Int32) hc33 (by decide) (by decide) (by rfl) (by decide) ?_
                refine aRun_ok hC hT 3 (cf' := (215, [(4, .int ((S.2.2 44) (a1 + (3 : Int32)).toNatClampNeg)), (3, .int ((S.2.2 44) (a1 + (2 : Int32)).toNatClampNeg)), (2, .int ((S.2.2 44) (a1 + (1 : Int32)).toNatClampNeg)), (0, .ref 42), (1, .int a1)], [], LAY, (aI S 42 11 ((S.2.2 44) (a1 + (1 : Int32)).toNatClampNeg)))) (by rfl) ?_
                have e9 := Option.some.inj hf; subst e9
                exact aRetV hC hT hF rfl rfl
              · rcases aIfE hf with ⟨hc34, hf⟩ | ⟨-, hf⟩
                · refine aTsw hC hT (off := 182) (tgt := 216) rfl (6 : Int32) hc34 (by decide) (by decide) (by rfl) (by decide) ?_
                  refine aRun_ok hC hT 3 (cf' := (221, [(4, .int ((S.2.2 44) (a1 + (3 : Int32)).toNatClampNeg)), (3, .int ((S.2.2 44) (a1 + (2 : Int32)).toNatClampNeg)), (2, .int ((S.2.2 44) (a1 + (1 : Int32)).toNatClampNeg)), (0, .ref 42), (1, .int a1)], [], LAY, (aI S 42 12 ((S.2.2 44) (a1 + (1 : Int32)).toNatClampNeg)))) (by rfl) ?_
                  have e9 := Option.some.inj hf; subst e9
                  exact aRetV hC hT hF rfl rfl
                · cases hf
