def J0_coder_7d493_1004 : Int32 := (0 : Int32)
set_option maxHeartbeats 4000000 in
set_option maxRecDepth 100000 in
theorem J_J0_coder_7d493_1004 (l : Launch) (g : aWg) (S : aSt) {r : Int32} (hf : J0_coder_7d493_1004 = r) : aJ l g yJ0_coder_7d493 M_J0_coder_7d493 [.ref 1004] LAY S (some (.int r)) LAY S 0 0 := by
  refine aJ_of (by decide +kernel) rfl (Nat.le_of_ble_eq_true rfl) (fun h => nomatch h) ?_
  intro C hg hl hC hz hF
  subst hg; subst hl
  have hT := ok_J0_coder_7d493
  unfold J0_coder_7d493_1004 at hf
  show aX C M_J0_coder_7d493 0 0 (0, [(0, .ref 1004)], [], LAY, S)
  refine aRun_ok hC hT 1 (cf' := (3, [(0, .ref 1004)], [.int (1 : Int32)], LAY, S)) (by rfl) ?_
  refine aIf_eq hC hT (tgt := 13) rfl (by decide) (fun h => absurd h (by decide)) (fun _ => ?_)
  refine aRun_ok hC hT 3 (cf' := (14, [(0, .ref 1004)], [.int (0 : Int32)], LAY, S)) (by rfl) ?_
  subst hf
  exact aRetZ hC hT hF rfl (by decide) rfl
def J0_length_8abf5_1004 : Int32 := ((4 : Int32) >>> ((0 : Int32) &&& 31))
set_option maxHeartbeats 4000000 in
set_option maxRecDepth 100000 in
theorem J_J0_length_8abf5_1004 (l : Launch) (g : aWg) (S : aSt) {r : Int32} (hf : J0_length_8abf5_1004 = r) : aJ l g yJ0_length_8abf5 M_J0_length_8abf5 [.ref 1004] LAY S (some (.int r)) LAY S 0 0 := by
  refine aJ_of (by decide +kernel) rfl (Nat.le_of_ble_eq_true rfl) (fun h => nomatch h) ?_
  intro C hg hl hC hz hF
  subst hg; subst hl
  have hT := ok_J0_length_8abf5
  unfold J0_length_8abf5_1004 at hf
  show aX C M_J0_length_8abf5 0 0 (0, [(0, .ref 1004)], [], LAY, S)
  refine aRun_ok hC hT 4 (cf' := (6, [(0, .ref 1004)], [.ref 1004, .int (4 : Int32)], LAY, S)) (by rfl) ?_
  refine aCallW (b := 1004) (As := []) (rest := [.int (4 : Int32)]) hC hT rfl k_J0_length_8abf5_335.1 _ _ k_J0_length_8abf5_335.2 (by decide) (by rfl) (by rfl) (Nat.le_of_ble_eq_true rfl) (by decide) (J_J0_coder_7d493_1004 C.2.2.1 C.1  S rfl) ?_
  refine aRun_ok hC hT 1 (cf' := (10, [(0, .ref 1004)], [.int ((4 : Int32) >>> ((0 : Int32) &&& 31))], LAY, S)) (by rfl) ?_
  subst hf
  exact aRetI hC hT hF rfl rfl
def J0_isLatin1_aae02_1004 : Int32 := (1 : Int32)
set_option maxHeartbeats 4000000 in
set_option maxRecDepth 100000 in
theorem J_J0_isLatin1_aae02_1004 (l : Launch) (g : aWg) (S : aSt) {r : Int32} (hf : J0_isLatin1_aae02_1004 = r) : aJ l g yJ0_isLatin1_aae02 M_J0_isLatin1_aae02 [.ref 1004] LAY S (some (.int r)) LAY S 0 0 := by
  refine aJ_of (by decide +kernel) rfl (Nat.le_of_ble_eq_true rfl) (fun h => nomatch h) ?_
  intro C hg hl hC hz hF
  subst hg; subst hl
  have hT := ok_J0_isLatin1_aae02
  unfold J0_isLatin1_aae02_1004 at hf
  show aX C M_J0_isLatin1_aae02 0 0 (0, [(0, .ref 1004)], [], LAY, S)
  refine aRun_ok hC hT 1 (cf' := (3, [(0, .ref 1004)], [.int (1 : Int32)], LAY, S)) (by rfl) ?_
  refine aIf_eq hC hT (tgt := 17) rfl (by decide) (fun h => absurd h (by decide)) (fun _ => ?_)
  refine aRun_ok hC hT 2 (cf' := (10, [(0, .ref 1004)], [.int (0 : Int32)], LAY, S)) (by rfl) ?_
  refine aIf_ne hC hT (tgt := 17) rfl (by decide) (fun h => absurd h (by decide)) (fun _ => ?_)
  refine aRun_ok hC hT 2 (cf' := (18, [(0, .ref 1004)], [.int (1 : Int32)], LAY, S)) (by rfl) ?_
  subst hf
  exact aRetB hC hT hF rfl (Or.inr rfl) rfl
def J1_charAt_3b067_1013 (N : Nat) (a1 : Int32) : Option (Int32) := (Option.bind (J0_checkIndex_df160 N a1 (4 : Int32)) (fun w1 => (if aIx a1 4 = true then (if narrow .char (.int ((((aByt.getD 2 []).getD a1.toNatClampNeg (0 : Int32)) &&& (255 : Int32)).toUInt32 % 65536).toInt32) = .int ((((aByt.getD 2 []).getD a1.toNatClampNeg (0 : Int32)) &&& (255 : Int32)).toUInt32 % 65536).toInt32 then some (((((aByt.getD 2 []).getD a1.toNatClampNeg (0 : Int32)) &&& (255 : Int32)).toUInt32 % 65536).toInt32) else none) else none)))
set_option maxHeartbeats 4000000 in
set_option maxRecDepth 100000 in
theorem J_J1_charAt_3b067_1013 (l : Launch) (g : aWg) (N : Nat) (a1 : Int32) (S : aSt) {r : Int32} (hf : J1_charAt_3b067_1013 N a1 = (some r)) : aJ l g yJ1_charAt_3b067 M_J1_charAt_3b067 [.ref 1013, .int a1] LAY S (some (.int r)) LAY S 0 0 := by
  refine aJ_of (by decide +kernel) rfl (Nat.le_of_ble_eq_true rfl) (fun h => nomatch h) ?_
  intro C hg hl hC hz hF
  subst hg; subst hl
  have hT := ok_J1_charAt_3b067
  unfold J1_charAt_3b067_1013 at hf
  show aX C M_J1_charAt_3b067 0 0 (0, [(0, .ref 1013), (1, .int a1)], [], LAY, S)
  refine aRun_ok hC hT 3 (cf' := (3, [(0, .ref 1013), (1, .int a1)], [.int (4 : Int32), .int a1], LAY, S)) (by rfl) ?_
  obtain ⟨w1, ew2, hf⟩ := aBnE hf
  refine aCallS (As := [.int a1, .int (4 : Int32)]) (rest := []) hC hT rfl k_J1_charAt_3b067_9.1 _ k_J1_charAt_3b067_9.2 (by rfl) (Nat.le_of_ble_eq_true rfl) (by decide) (J_J0_checkIndex_df160 C.2.2.1 C.1 N a1 (4 : Int32) S ew2) ?_
  refine aRun_ok hC hT 2 (cf' := (8, [(0, .ref 1013), (1, .int a1)], [.int a1, .ref 1013], LAY, S)) (by rfl) ?_
  obtain ⟨hin3, hf⟩ := aGdE hf
  refine aBald hC hT rfl (by decide) (by decide) hin3 ?_
  refine aRun_ok hC hT 3 (cf' := (14, [(0, .ref 1013), (1, .int a1)], [.int ((((aByt.getD 2 []).getD a1.toNatClampNeg (0 : Int32)) &&& (255 : Int32)).toUInt32 % 65536).toInt32], LAY, S)) (by rfl) ?_
  obtain ⟨hb4, hf⟩ := aGdE hf
  have e9 := Option.some.inj hf; subst e9
  exact aRetZ hC hT hF rfl hb4 rfl
def J0_charAt_5068e_1004 (N : Nat) (a1 : Int32) : Option (Int32) := (Option.bind (J1_charAt_3b067_1013 N a1) (fun w3 => (if narrow .char (.int w3) = .int w3 then some (w3) else none)))
set_option maxHeartbeats 4000000 in
set_option maxRecDepth 100000 in
theorem J_J0_charAt_5068e_1004 (l : Launch) (g : aWg) (N : Nat) (a1 : Int32) (S : aSt) {r : Int32} (hf : J0_charAt_5068e_1004 N a1 = (some r)) : aJ l g yJ0_charAt_5068e M_J0_charAt_5068e [.ref 1004, .int a1] LAY S (some (.int r)) LAY S 0 0 := by
  refine aJ_of (by decide +kernel) rfl (Nat.le_of_ble_eq_true rfl) (fun h => nomatch h) ?_
  intro C hg hl hC hz hF
  subst hg; subst hl
  have hT := ok_J0_charAt_5068e
  unfold J0_charAt_5068e_1004 at hf
  show aX C M_J0_charAt_5068e 0 0 (0, [(0, .ref 1004), (1, .int a1)], [], LAY, S)
  refine aRun_ok hC hT 1 (cf' := (1, [(0, .ref 1004), (1, .int a1)], [.ref 1004], LAY, S)) (by rfl) ?_
  refine aCallW (b := 1004) (As := []) (rest := []) hC hT rfl k_J0_charAt_5068e_492.1 _ _ k_J0_charAt_5068e_492.2 (by decide) (by rfl) (by rfl) (Nat.le_of_ble_eq_true rfl) (by decide) (J_J0_isLatin1_aae02_1004 C.2.2.1 C.1  S rfl) ?_
  refine aIf_eq hC hT (tgt := 16) rfl (by decide) (fun h => absurd h (by decide)) (fun _ => ?_)
  refine aRun_ok hC hT 3 (cf' := (12, [(0, .ref 1004), (1, .int a1)], [.int a1, .ref 1013], LAY, S)) (by rfl) ?_
  obtain ⟨w3, ew4, hf⟩ := aBnE hf
  refine aCallS (As := [.ref 1013, .int a1]) (rest := []) hC hT rfl k_J0_charAt_5068e_495.1 _ k_J0_charAt_5068e_495.2 (by rfl) (Nat.le_of_ble_eq_true rfl) (by decide) (J_J1_charAt_3b067_1013 C.2.2.1 C.1 N a1 S ew4) ?_
  obtain ⟨hb5, hf⟩ := aGdE hf
  have e9 := Option.some.inj hf; subst e9
  exact aRetZ hC hT hF rfl hb5 rfl
def X9_is_1_1004_b15 (N : Nat) (S : aSt) (rec15 : Int32 → Int32 → Option (Int32)) (v2 : Int32) (v4 : Int32) : Option (Int32) := (aLet (J0_length_8abf5_1004) (fun w4 => (if w4 ≤ v4 then some ((1 : Int32)) else (Option.bind (J0_charAt_5068e_1004 N v4) (fun w7 => (aLet (X6_at_2 (v2 + v4) S) (fun w9 => (if w7 = w9 then (rec15 v2 (v4 + (1 : Int32))) else some ((0 : Int32))))))))))
set_option maxHeartbeats 4000000 in
set_option maxRecDepth 100000 in
theorem X9_is_1_1004_b15_ok {C : aC} {N : Nat} {S : aSt} {rec15 : Int32 → Int32 → Option (Int32)} (hC : aCx C M_X9_is) {r : Int32} (hF : aFin C (some (.int r)) LAY S 0 0) (hrec15 : ∀ (v2 : Int32) (v4 : Int32), rec15 v2 v4 = (some r) → aX C M_X9_is 0 0 (15, [(0, .ref 1), (1, .ref 1004), (2, .int v2), (4, .int v4)], [], LAY, S)) (v2 : Int32) (v4 : Int32) (hf : X9_is_1_1004_b15 N S rec15 v2 v4 = (some r)) : aX C M_X9_is 0 0 (15, [(0, .ref 1), (1, .ref 1004), (2, .int v2), (4, .int v4)], [], LAY, S) := by
  have hT := ok_X9_is
  unfold X9_is_1_1004_b15 at hf
  refine aRun_ok hC hT 2 (cf' := (18, [(0, .ref 1), (1, .ref 1004), (2, .int v2), (4, .int v4)], [.ref 1004, .int v4], LAY, S)) (by rfl) ?_
  obtain ⟨w4, ew5, hf⟩ := aLetE hf
  refine aCallW (b := 1004) (As := []) (rest := [.int v4]) hC hT rfl k_X9_is_111.1 _ _ k_X9_is_111.2 (by decide) (by rfl) (by rfl) (Nat.le_of_ble_eq_true rfl) (by decide) (J_J0_length_8abf5_1004 C.2.2.1 C.1  S ew5) ?_
  refine aCmp_ge hC hT (tgt := 52) rfl (by decide) (fun hc6 => ?_) (fun hc6 => ?_)
  · have hf := aIfT hf hc6
    refine aRun_ok hC hT 1 (cf' := (53, [(0, .ref 1), (1, .ref 1004), (2, .int v2), (4, .int v4)], [.int (1 : Int32)], LAY, S)) (by rfl) ?_
    have e9 := Option.some.inj hf; subst e9
    exact aRetB hC hT hF rfl (Or.inr rfl) rfl
  · have hf := aIfF hf hc6
    refine aRun_ok hC hT 2 (cf' := (27, [(0, .ref 1), (1, .ref 1004), (2, .int v2), (4, .int v4)], [.int v4, .ref 1004], LAY, S)) (by rfl) ?_
    obtain ⟨w7, ew8, hf⟩ := aBnE hf
    refine aCallW (b := 1004) (As := [.int v4]) (rest := []) hC hT rfl k_X9_is_116.1 _ _ k_X9_is_116.2 (by decide) (by rfl) (by rfl) (Nat.le_of_ble_eq_true rfl) (by decide) (J_J0_charAt_5068e_1004 C.2.2.1 C.1 N v4 S ew8) ?_
    refine aRun_ok hC hT 5 (cf' := (38, [(0, .ref 1), (1, .ref 1004), (2, .int v2), (4, .int v4)], [.int (v2 + v4), .ref 2, .int w7], LAY, S)) (by rfl) ?_
    obtain ⟨w9, ew10, hf⟩ := aLetE hf
    refine aCallS (As := [.ref 2, .int (v2 + v4)]) (rest := [.int w7]) hC hT rfl k_X9_is_40.1 _ k_X9_is_40.2 (by rfl) (Nat.le_of_ble_eq_true rfl) (by decide) (J_X6_at_2 C.2.2.1 C.1 (v2 + v4) S ew10) ?_
    refine aCmp_eq hC hT (tgt := 46) rfl (by decide) (fun hc11 => ?_) (fun hc11 => ?_)
    · have hf := aIfT hf hc11
      refine aRun_ok hC hT 2 (cf' := (15, [(4, .int (v4 + (1 : Int32))), (0, .ref 1), (1, .ref 1004), (2, .int v2)], [], LAY, S)) (by rfl) ?_
      refine aLocs [1, 2, 3, 0] (lv' := [(0, .ref 1), (1, .ref 1004), (2, .int v2), (4, .int (v4 + (1 : Int32)))]) rfl ?_
      exact hrec15 v2 (v4 + (1 : Int32)) hf
    · have hf := aIfF hf hc11
      refine aRun_ok hC hT 1 (cf' := (45, [(0, .ref 1), (1, .ref 1004), (2, .int v2), (4, .int v4)], [.int (0 : Int32)], LAY, S)) (by rfl) ?_
      have e9 := Option.some.inj hf; subst e9
      exact aRetB hC hT hF rfl (Or.inl rfl) rfl
def X9_is_1_1004_l15 (N : Nat) (S : aSt) : Nat → Int32 → Int32 → Option (Int32)
  | 0 => fun _ _ => none
  | n + 1 => X9_is_1_1004_b15 N S (X9_is_1_1004_l15 N S n)
theorem X9_is_1_1004_l15_ok {C : aC} {N : Nat} {S : aSt} (hC : aCx C M_X9_is) {r : Int32} (hF : aFin C (some (.int r)) LAY S 0 0) : ∀ (n : Nat) (v2 : Int32) (v4 : Int32), X9_is_1_1004_l15 N S n v2 v4 = (some r) → aX C M_X9_is 0 0 (15, [(0, .ref 1), (1, .ref 1004), (2, .int v2), (4, .int v4)], [], LAY, S)
  | 0, _, _,  h => nomatch (show (none : Option (Int32)) = some _ from h)
  | n + 1, v2, v4,  h => X9_is_1_1004_b15_ok hC hF (fun v2 v4 h => X9_is_1_1004_l15_ok hC hF n v2 v4 h) v2 v4 h
def X9_is_1_1004 (N : Nat) (a2 : Int32) (a3 : Int32) (S : aSt) : Option (Int32) := (aLet (J0_length_8abf5_1004) (fun w1 => (if (a3 - a2) = w1 then (X9_is_1_1004_l15 N S N a2 (0 : Int32)) else some ((0 : Int32)))))
set_option maxHeartbeats 4000000 in
set_option maxRecDepth 100000 in
theorem J_X9_is_1_1004 (l : Launch) (g : aWg) (N : Nat) (a2 : Int32) (a3 : Int32) (S : aSt) {r : Int32} (hf : X9_is_1_1004 N a2 a3 S = (some r)) : aJ l g yX9_is M_X9_is [.ref 1, .ref 1004, .int a2, .int a3] LAY S (some (.int r)) LAY S 0 0 := by
  refine aJ_of (by decide +kernel) rfl (Nat.le_of_ble_eq_true rfl) (fun h => nomatch h) ?_
  intro C hg hl hC hz hF
  subst hg; subst hl
  have hT := ok_X9_is
  unfold X9_is_1_1004 at hf
  show aX C M_X9_is 0 0 (0, [(0, .ref 1), (1, .ref 1004), (2, .int a2), (3, .int a3)], [], LAY, S)
  refine aRun_ok hC hT 4 (cf' := (4, [(0, .ref 1), (1, .ref 1004), (2, .int a2), (3, .int a3)], [.ref 1004, .int (a3 - a2)], LAY, S)) (by rfl) ?_
  obtain ⟨w1, ew2, hf⟩ := aLetE hf
  refine aCallW (b := 1004) (As := []) (rest := [.int (a3 - a2)]) hC hT rfl k_X9_is_111.1 _ _ k_X9_is_111.2 (by decide) (by rfl) (by rfl) (Nat.le_of_ble_eq_true rfl) (by decide) (J_J0_length_8abf5_1004 C.2.2.1 C.1  S ew2) ?_
  refine aCmp_eq hC hT (tgt := 12) rfl (by decide) (fun hc3 => ?_) (fun hc3 => ?_)
  · have hf := aIfT hf hc3
    refine aRun_ok hC hT 2 (cf' := (15, [(4, .int (0 : Int32)), (0, .ref 1), (1, .ref 1004), (2, .int a2), (3, .int a3)], [], LAY, S)) (by rfl) ?_
    refine aLocs [1, 2, 3, 0] (lv' := [(0, .ref 1), (1, .ref 1004), (2, .int a2), (4, .int (0 : Int32))]) rfl ?_
    exact X9_is_1_1004_l15_ok hC hF N a2 (0 : Int32) hf
  · have hf := aIfF hf hc3
    refine aRun_ok hC hT 1 (cf' := (11, [(0, .ref 1), (1, .ref 1004), (2, .int a2), (3, .int a3)], [.int (0 : Int32)], LAY, S)) (by rfl) ?_
    have e9 := Option.some.inj hf; subst e9
    exact aRetB hC hT hF rfl (Or.inl rfl) rfl
def J0_coder_7d493_1005 : Int32 := (0 : Int32)
set_option maxHeartbeats 4000000 in
set_option maxRecDepth 100000 in
theorem J_J0_coder_7d493_1005 (l : Launch) (g : aWg) (S : aSt) {r : Int32} (hf : J0_coder_7d493_1005 = r) : aJ l g yJ0_coder_7d493 M_J0_coder_7d493 [.ref 1005] LAY S (some (.int r)) LAY S 0 0 := by
  refine aJ_of (by decide +kernel) rfl (Nat.le_of_ble_eq_true rfl) (fun h => nomatch h) ?_
  intro C hg hl hC hz hF
  subst hg; subst hl
  have hT := ok_J0_coder_7d493
  unfold J0_coder_7d493_1005 at hf
  show aX C M_J0_coder_7d493 0 0 (0, [(0, .ref 1005)], [], LAY, S)
  refine aRun_ok hC hT 1 (cf' := (3, [(0, .ref 1005)], [.int (1 : Int32)], LAY, S)) (by rfl) ?_
  refine aIf_eq hC hT (tgt := 13) rfl (by decide) (fun h => absurd h (by decide)) (fun _ => ?_)
  refine aRun_ok hC hT 3 (cf' := (14, [(0, .ref 1005)], [.int (0 : Int32)], LAY, S)) (by rfl) ?_
  subst hf
  exact aRetZ hC hT hF rfl (by decide) rfl
def J0_length_8abf5_1005 : Int32 := ((4 : Int32) >>> ((0 : Int32) &&& 31))
set_option maxHeartbeats 4000000 in
set_option maxRecDepth 100000 in
theorem J_J0_length_8abf5_1005 (l : Launch) (g : aWg) (S : aSt) {r : Int32} (hf : J0_length_8abf5_1005 = r) : aJ l g yJ0_length_8abf5 M_J0_length_8abf5 [.ref 1005] LAY S (some (.int r)) LAY S 0 0 := by
  refine aJ_of (by decide +kernel) rfl (Nat.le_of_ble_eq_true rfl) (fun h => nomatch h) ?_
  intro C hg hl hC hz hF
  subst hg; subst hl
  have hT := ok_J0_length_8abf5
  unfold J0_length_8abf5_1005 at hf
  show aX C M_J0_length_8abf5 0 0 (0, [(0, .ref 1005)], [], LAY, S)
  refine aRun_ok hC hT 4 (cf' := (6, [(0, .ref 1005)], [.ref 1005, .int (4 : Int32)], LAY, S)) (by rfl) ?_
  refine aCallW (b := 1005) (As := []) (rest := [.int (4 : Int32)]) hC hT rfl k_J0_length_8abf5_335.1 _ _ k_J0_length_8abf5_335.2 (by decide) (by rfl) (by rfl) (Nat.le_of_ble_eq_true rfl) (by decide) (J_J0_coder_7d493_1005 C.2.2.1 C.1  S rfl) ?_
  refine aRun_ok hC hT 1 (cf' := (10, [(0, .ref 1005)], [.int ((4 : Int32) >>> ((0 : Int32) &&& 31))], LAY, S)) (by rfl) ?_
  subst hf
  exact aRetI hC hT hF rfl rfl
def J0_isLatin1_aae02_1005 : Int32 := (1 : Int32)
set_option maxHeartbeats 4000000 in
set_option maxRecDepth 100000 in
theorem J_J0_isLatin1_aae02_1005 (l : Launch) (g : aWg) (S : aSt) {r : Int32} (hf : J0_isLatin1_aae02_1005 = r) : aJ l g yJ0_isLatin1_aae02 M_J0_isLatin1_aae02 [.ref 1005] LAY S (some (.int r)) LAY S 0 0 := by
  refine aJ_of (by decide +kernel) rfl (Nat.le_of_ble_eq_true rfl) (fun h => nomatch h) ?_
  intro C hg hl hC hz hF
  subst hg; subst hl
  have hT := ok_J0_isLatin1_aae02
  unfold J0_isLatin1_aae02_1005 at hf
  show aX C M_J0_isLatin1_aae02 0 0 (0, [(0, .ref 1005)], [], LAY, S)
  refine aRun_ok hC hT 1 (cf' := (3, [(0, .ref 1005)], [.int (1 : Int32)], LAY, S)) (by rfl) ?_
  refine aIf_eq hC hT (tgt := 17) rfl (by decide) (fun h => absurd h (by decide)) (fun _ => ?_)
  refine aRun_ok hC hT 2 (cf' := (10, [(0, .ref 1005)], [.int (0 : Int32)], LAY, S)) (by rfl) ?_
  refine aIf_ne hC hT (tgt := 17) rfl (by decide) (fun h => absurd h (by decide)) (fun _ => ?_)
  refine aRun_ok hC hT 2 (cf' := (18, [(0, .ref 1005)], [.int (1 : Int32)], LAY, S)) (by rfl) ?_
  subst hf
  exact aRetB hC hT hF rfl (Or.inr rfl) rfl
def J1_charAt_3b067_1014 (N : Nat) (a1 : Int32) : Option (Int32) := (Option.bind (J0_checkIndex_df160 N a1 (4 : Int32)) (fun w1 => (if aIx a1 4 = true then (if narrow .char (.int ((((aByt.getD 3 []).getD a1.toNatClampNeg (0 : Int32)) &&& (255 : Int32)).toUInt32 % 65536).toInt32) = .int ((((aByt.getD 3 []).getD a1.toNatClampNeg (0 : Int32)) &&& (255 : Int32)).toUInt32 % 65536).toInt32 then some (((((aByt.getD 3 []).getD a1.toNatClampNeg (0 : Int32)) &&& (255 : Int32)).toUInt32 % 65536).toInt32) else none) else none)))
set_option maxHeartbeats 4000000 in
set_option maxRecDepth 100000 in
theorem J_J1_charAt_3b067_1014 (l : Launch) (g : aWg) (N : Nat) (a1 : Int32) (S : aSt) {r : Int32} (hf : J1_charAt_3b067_1014 N a1 = (some r)) : aJ l g yJ1_charAt_3b067 M_J1_charAt_3b067 [.ref 1014, .int a1] LAY S (some (.int r)) LAY S 0 0 := by
  refine aJ_of (by decide +kernel) rfl (Nat.le_of_ble_eq_true rfl) (fun h => nomatch h) ?_
  intro C hg hl hC hz hF
  subst hg; subst hl
  have hT := ok_J1_charAt_3b067
  unfold J1_charAt_3b067_1014 at hf
  show aX C M_J1_charAt_3b067 0 0 (0, [(0, .ref 1014), (1, .int a1)], [], LAY, S)
  refine aRun_ok hC hT 3 (cf' := (3, [(0, .ref 1014), (1, .int a1)], [.int (4 : Int32), .int a1], LAY, S)) (by rfl) ?_
  obtain ⟨w1, ew2, hf⟩ := aBnE hf
  refine aCallS (As := [.int a1, .int (4 : Int32)]) (rest := []) hC hT rfl k_J1_charAt_3b067_9.1 _ k_J1_charAt_3b067_9.2 (by rfl) (Nat.le_of_ble_eq_true rfl) (by decide) (J_J0_checkIndex_df160 C.2.2.1 C.1 N a1 (4 : Int32) S ew2) ?_
  refine aRun_ok hC hT 2 (cf' := (8, [(0, .ref 1014), (1, .int a1)], [.int a1, .ref 1014], LAY, S)) (by rfl) ?_
  obtain ⟨hin3, hf⟩ := aGdE hf
  refine aBald hC hT rfl (by decide) (by decide) hin3 ?_
  refine aRun_ok hC hT 3 (cf' := (14, [(0, .ref 1014), (1, .int a1)], [.int ((((aByt.getD 3 []).getD a1.toNatClampNeg (0 : Int32)) &&& (255 : Int32)).toUInt32 % 65536).toInt32], LAY, S)) (by rfl) ?_
  obtain ⟨hb4, hf⟩ := aGdE hf
  have e9 := Option.some.inj hf; subst e9
  exact aRetZ hC hT hF rfl hb4 rfl
def J0_charAt_5068e_1005 (N : Nat) (a1 : Int32) : Option (Int32) := (Option.bind (J1_charAt_3b067_1014 N a1) (fun w3 => (if narrow .char (.int w3) = .int w3 then some (w3) else none)))
set_option maxHeartbeats 4000000 in
set_option maxRecDepth 100000 in
theorem J_J0_charAt_5068e_1005 (l : Launch) (g : aWg) (N : Nat) (a1 : Int32) (S : aSt) {r : Int32} (hf : J0_charAt_5068e_1005 N a1 = (some r)) : aJ l g yJ0_charAt_5068e M_J0_charAt_5068e [.ref 1005, .int a1] LAY S (some (.int r)) LAY S 0 0 := by
  refine aJ_of (by decide +kernel) rfl (Nat.le_of_ble_eq_true rfl) (fun h => nomatch h) ?_
  intro C hg hl hC hz hF
  subst hg; subst hl
  have hT := ok_J0_charAt_5068e
  unfold J0_charAt_5068e_1005 at hf
  show aX C M_J0_charAt_5068e 0 0 (0, [(0, .ref 1005), (1, .int a1)], [], LAY, S)
  refine aRun_ok hC hT 1 (cf' := (1, [(0, .ref 1005), (1, .int a1)], [.ref 1005], LAY, S)) (by rfl) ?_
  refine aCallW (b := 1005) (As := []) (rest := []) hC hT rfl k_J0_charAt_5068e_492.1 _ _ k_J0_charAt_5068e_492.2 (by decide) (by rfl) (by rfl) (Nat.le_of_ble_eq_true rfl) (by decide) (J_J0_isLatin1_aae02_1005 C.2.2.1 C.1  S rfl) ?_
  refine aIf_eq hC hT (tgt := 16) rfl (by decide) (fun h => absurd h (by decide)) (fun _ => ?_)
  refine aRun_ok hC hT 3 (cf' := (12, [(0, .ref 1005), (1, .int a1)], [.int a1, .ref 1014], LAY, S)) (by rfl) ?_
  obtain ⟨w3, ew4, hf⟩ := aBnE hf
  refine aCallS (As := [.ref 1014, .int a1]) (rest := []) hC hT rfl k_J0_charAt_5068e_495.1 _ k_J0_charAt_5068e_495.2 (by rfl) (Nat.le_of_ble_eq_true rfl) (by decide) (J_J1_charAt_3b067_1014 C.2.2.1 C.1 N a1 S ew4) ?_
  obtain ⟨hb5, hf⟩ := aGdE hf
  have e9 := Option.some.inj hf; subst e9
  exact aRetZ hC hT hF rfl hb5 rfl
def X9_is_1_1005_b15 (N : Nat) (S : aSt) (rec15 : Int32 → Int32 → Option (Int32)) (v2 : Int32) (v4 : Int32) : Option (Int32) := (aLet (J0_length_8abf5_1005) (fun w4 => (if w4 ≤ v4 then some ((1 : Int32)) else (Option.bind (J0_charAt_5068e_1005 N v4) (fun w7 => (aLet (X6_at_2 (v2 + v4) S) (fun w9 => (if w7 = w9 then (rec15 v2 (v4 + (1 : Int32))) else some ((0 : Int32))))))))))
set_option maxHeartbeats 4000000 in
set_option maxRecDepth 100000 in
theorem X9_is_1_1005_b15_ok {C : aC} {N : Nat} {S : aSt} {rec15 : Int32 → Int32 → Option (Int32)} (hC : aCx C M_X9_is) {r : Int32} (hF : aFin C (some (.int r)) LAY S 0 0) (hrec15 : ∀ (v2 : Int32) (v4 : Int32), rec15 v2 v4 = (some r) → aX C M_X9_is 0 0 (15, [(0, .ref 1), (1, .ref 1005), (2, .int v2), (4, .int v4)], [], LAY, S)) (v2 : Int32) (v4 : Int32) (hf : X9_is_1_1005_b15 N S rec15 v2 v4 = (some r)) : aX C M_X9_is 0 0 (15, [(0, .ref 1), (1, .ref 1005), (2, .int v2), (4, .int v4)], [], LAY, S) := by
  have hT := ok_X9_is
  unfold X9_is_1_1005_b15 at hf
  refine aRun_ok hC hT 2 (cf' := (18, [(0, .ref 1), (1, .ref 1005), (2, .int v2), (4, .int v4)], [.ref 1005, .int v4], LAY, S)) (by rfl) ?_
  obtain ⟨w4, ew5, hf⟩ := aLetE hf
  refine aCallW (b := 1005) (As := []) (rest := [.int v4]) hC hT rfl k_X9_is_111.1 _ _ k_X9_is_111.2 (by decide) (by rfl) (by rfl) (Nat.le_of_ble_eq_true rfl) (by decide) (J_J0_length_8abf5_1005 C.2.2.1 C.1  S ew5) ?_
  refine aCmp_ge hC hT (tgt := 52) rfl (by decide) (fun hc6 => ?_) (fun hc6 => ?_)
  · have hf := aIfT hf hc6
    refine aRun_ok hC hT 1 (cf' := (53, [(0, .ref 1), (1, .ref 1005), (2, .int v2), (4, .int v4)], [.int (1 : Int32)], LAY, S)) (by rfl) ?_
    have e9 := Option.some.inj hf; subst e9
    exact aRetB hC hT hF rfl (Or.inr rfl) rfl
  · have hf := aIfF hf hc6
    refine aRun_ok hC hT 2 (cf' := (27, [(0, .ref 1), (1, .ref 1005), (2, .int v2), (4, .int v4)], [.int v4, .ref 1005], LAY, S)) (by rfl) ?_
    obtain ⟨w7, ew8, hf⟩ := aBnE hf
    refine aCallW (b := 1005) (As := [.int v4]) (rest := []) hC hT rfl k_X9_is_116.1 _ _ k_X9_is_116.2 (by decide) (by rfl) (by rfl) (Nat.le_of_ble_eq_true rfl) (by decide) (J_J0_charAt_5068e_1005 C.2.2.1 C.1 N v4 S ew8) ?_
    refine aRun_ok hC hT 5 (cf' := (38, [(0, .ref 1), (1, .ref 1005), (2, .int v2), (4, .int v4)], [.int (v2 + v4), .ref 2, .int w7], LAY, S)) (by rfl) ?_
    obtain ⟨w9, ew10, hf⟩ := aLetE hf
    refine aCallS (As := [.ref 2, .int (v2 + v4)]) (rest := [.int w7]) hC hT rfl k_X9_is_40.1 _ k_X9_is_40.2 (by rfl) (Nat.le_of_ble_eq_true rfl) (by decide) (J_X6_at_2 C.2.2.1 C.1 (v2 + v4) S ew10) ?_
    refine aCmp_eq hC hT (tgt := 46) rfl (by decide) (fun hc11 => ?_) (fun hc11 => ?_)
    · have hf := aIfT hf hc11
      refine aRun_ok hC hT 2 (cf' := (15, [(4, .int (v4 + (1 : Int32))), (0, .ref 1), (1, .ref 1005), (2, .int v2)], [], LAY, S)) (by rfl) ?_
      refine aLocs [1, 2, 3, 0] (lv' := [(0, .ref 1), (1, .ref 1005), (2, .int v2), (4, .int (v4 + (1 : Int32)))]) rfl ?_
      exact hrec15 v2 (v4 + (1 : Int32)) hf
    · have hf := aIfF hf hc11
      refine aRun_ok hC hT 1 (cf' := (45, [(0, .ref 1), (1, .ref 1005), (2, .int v2), (4, .int v4)], [.int (0 : Int32)], LAY, S)) (by rfl) ?_
      have e9 := Option.some.inj hf; subst e9
      exact aRetB hC hT hF rfl (Or.inl rfl) rfl
def X9_is_1_1005_l15 (N : Nat) (S : aSt) : Nat → Int32 → Int32 → Option (Int32)
  | 0 => fun _ _ => none
  | n + 1 => X9_is_1_1005_b15 N S (X9_is_1_1005_l15 N S n)
theorem X9_is_1_1005_l15_ok {C : aC} {N : Nat} {S : aSt} (hC : aCx C M_X9_is) {r : Int32} (hF : aFin C (some (.int r)) LAY S 0 0) : ∀ (n : Nat) (v2 : Int32) (v4 : Int32), X9_is_1_1005_l15 N S n v2 v4 = (some r) → aX C M_X9_is 0 0 (15, [(0, .ref 1), (1, .ref 1005), (2, .int v2), (4, .int v4)], [], LAY, S)
  | 0, _, _,  h => nomatch (show (none : Option (Int32)) = some _ from h)
  | n + 1, v2, v4,  h => X9_is_1_1005_b15_ok hC hF (fun v2 v4 h => X9_is_1_1005_l15_ok hC hF n v2 v4 h) v2 v4 h
def X9_is_1_1005 (N : Nat) (a2 : Int32) (a3 : Int32) (S : aSt) : Option (Int32) := (aLet (J0_length_8abf5_1005) (fun w1 => (if (a3 - a2) = w1 then (X9_is_1_1005_l15 N S N a2 (0 : Int32)) else some ((0 : Int32)))))
set_option maxHeartbeats 4000000 in
set_option maxRecDepth 100000 in
theorem J_X9_is_1_1005 (l : Launch) (g : aWg) (N : Nat) (a2 : Int32) (a3 : Int32) (S : aSt) {r : Int32} (hf : X9_is_1_1005 N a2 a3 S = (some r)) : aJ l g yX9_is M_X9_is [.ref 1, .ref 1005, .int a2, .int a3] LAY S (some (.int r)) LAY S 0 0 := by
  refine aJ_of (by decide +kernel) rfl (Nat.le_of_ble_eq_true rfl) (fun h => nomatch h) ?_
  intro C hg hl hC hz hF
  subst hg; subst hl
  have hT := ok_X9_is
  unfold X9_is_1_1005 at hf
  show aX C M_X9_is 0 0 (0, [(0, .ref 1), (1, .ref 1005), (2, .int a2), (3, .int a3)], [], LAY, S)
  refine aRun_ok hC hT 4 (cf' := (4, [(0, .ref 1), (1, .ref 1005), (2, .int a2), (3, .int a3)], [.ref 1005, .int (a3 - a2)], LAY, S)) (by rfl) ?_
  obtain ⟨w1, ew2, hf⟩ := aLetE hf
  refine aCallW (b := 1005) (As := []) (rest := [.int (a3 - a2)]) hC hT rfl k_X9_is_111.1 _ _ k_X9_is_111.2 (by decide) (by rfl) (by rfl) (Nat.le_of_ble_eq_true rfl) (by decide) (J_J0_length_8abf5_1005 C.2.2.1 C.1  S ew2) ?_
  refine aCmp_eq hC hT (tgt := 12) rfl (by decide) (fun hc3 => ?_) (fun hc3 => ?_)
  · have hf := aIfT hf hc3
    refine aRun_ok hC hT 2 (cf' := (15, [(4, .int (0 : Int32)), (0, .ref 1), (1, .ref 1005), (2, .int a2), (3, .int a3)], [], LAY, S)) (by rfl) ?_
    refine aLocs [1, 2, 3, 0] (lv' := [(0, .ref 1), (1, .ref 1005), (2, .int a2), (4, .int (0 : Int32))]) rfl ?_
    exact X9_is_1_1005_l15_ok hC hF N a2 (0 : Int32) hf
  · have hf := aIfF hf hc3
    refine aRun_ok hC hT 1 (cf' := (11, [(0, .ref 1), (1, .ref 1005), (2, .int a2), (3, .int a3)], [.int (0 : Int32)], LAY, S)) (by rfl) ?_
    have e9 := Option.some.inj hf; subst e9
    exact aRetB hC hT hF rfl (Or.inl rfl) rfl
def J0_coder_7d493_1006 : Int32 := (0 : Int32)
set_option maxHeartbeats 4000000 in
set_option maxRecDepth 100000 in
theorem J_J0_coder_7d493_1006 (l : Launch) (g : aWg) (S : aSt) {r : Int32} (hf : J0_coder_7d493_1006 = r) : aJ l g yJ0_coder_7d493 M_J0_coder_7d493 [.ref 1006] LAY S (some (.int r)) LAY S 0 0 := by
  refine aJ_of (by decide +kernel) rfl (Nat.le_of_ble_eq_true rfl) (fun h => nomatch h) ?_
  intro C hg hl hC hz hF
  subst hg; subst hl
  have hT := ok_J0_coder_7d493
  unfold J0_coder_7d493_1006 at hf
  show aX C M_J0_coder_7d493 0 0 (0, [(0, .ref 1006)], [], LAY, S)
  refine aRun_ok hC hT 1 (cf' := (3, [(0, .ref 1006)], [.int (1 : Int32)], LAY, S)) (by rfl) ?_
  refine aIf_eq hC hT (tgt := 13) rfl (by decide) (fun h => absurd h (by decide)) (fun _ => ?_)
  refine aRun_ok hC hT 3 (cf' := (14, [(0, .ref 1006)], [.int (0 : Int32)], LAY, S)) (by rfl) ?_
  subst hf
  exact aRetZ hC hT hF rfl (by decide) rfl
def J0_length_8abf5_1006 : Int32 := ((6 : Int32) >>> ((0 : Int32) &&& 31))
set_option maxHeartbeats 4000000 in
set_option maxRecDepth 100000 in
theorem J_J0_length_8abf5_1006 (l : Launch) (g : aWg) (S : aSt) {r : Int32} (hf : J0_length_8abf5_1006 = r) : aJ l g yJ0_length_8abf5 M_J0_length_8abf5 [.ref 1006] LAY S (some (.int r)) LAY S 0 0 := by
  refine aJ_of (by decide +kernel) rfl (Nat.le_of_ble_eq_true rfl) (fun h => nomatch h) ?_
  intro C hg hl hC hz hF
  subst hg; subst hl
  have hT := ok_J0_length_8abf5
  unfold J0_length_8abf5_1006 at hf
  show aX C M_J0_length_8abf5 0 0 (0, [(0, .ref 1006)], [], LAY, S)
  refine aRun_ok hC hT 4 (cf' := (6, [(0, .ref 1006)], [.ref 1006, .int (6 : Int32)], LAY, S)) (by rfl) ?_
  refine aCallW (b := 1006) (As := []) (rest := [.int (6 : Int32)]) hC hT rfl k_J0_length_8abf5_335.1 _ _ k_J0_length_8abf5_335.2 (by decide) (by rfl) (by rfl) (Nat.le_of_ble_eq_true rfl) (by decide) (J_J0_coder_7d493_1006 C.2.2.1 C.1  S rfl) ?_
  refine aRun_ok hC hT 1 (cf' := (10, [(0, .ref 1006)], [.int ((6 : Int32) >>> ((0 : Int32) &&& 31))], LAY, S)) (by rfl) ?_
  subst hf
  exact aRetI hC hT hF rfl rfl
def J0_isLatin1_aae02_1006 : Int32 := (1 : Int32)
set_option maxHeartbeats 4000000 in
set_option maxRecDepth 100000 in
theorem J_J0_isLatin1_aae02_1006 (l : Launch) (g : aWg) (S : aSt) {r : Int32} (hf : J0_isLatin1_aae02_1006 = r) : aJ l g yJ0_isLatin1_aae02 M_J0_isLatin1_aae02 [.ref 1006] LAY S (some (.int r)) LAY S 0 0 := by
  refine aJ_of (by decide +kernel) rfl (Nat.le_of_ble_eq_true rfl) (fun h => nomatch h) ?_
  intro C hg hl hC hz hF
  subst hg; subst hl
  have hT := ok_J0_isLatin1_aae02
  unfold J0_isLatin1_aae02_1006 at hf
  show aX C M_J0_isLatin1_aae02 0 0 (0, [(0, .ref 1006)], [], LAY, S)
  refine aRun_ok hC hT 1 (cf' := (3, [(0, .ref 1006)], [.int (1 : Int32)], LAY, S)) (by rfl) ?_
  refine aIf_eq hC hT (tgt := 17) rfl (by decide) (fun h => absurd h (by decide)) (fun _ => ?_)
  refine aRun_ok hC hT 2 (cf' := (10, [(0, .ref 1006)], [.int (0 : Int32)], LAY, S)) (by rfl) ?_
  refine aIf_ne hC hT (tgt := 17) rfl (by decide) (fun h => absurd h (by decide)) (fun _ => ?_)
  refine aRun_ok hC hT 2 (cf' := (18, [(0, .ref 1006)], [.int (1 : Int32)], LAY, S)) (by rfl) ?_
  subst hf
  exact aRetB hC hT hF rfl (Or.inr rfl) rfl
def J1_charAt_3b067_1015 (N : Nat) (a1 : Int32) : Option (Int32) := (Option.bind (J0_checkIndex_df160 N a1 (6 : Int32)) (fun w1 => (if aIx a1 6 = true then (if narrow .char (.int ((((aByt.getD 4 []).getD a1.toNatClampNeg (0 : Int32)) &&& (255 : Int32)).toUInt32 % 65536).toInt32) = .int ((((aByt.getD 4 []).getD a1.toNatClampNeg (0 : Int32)) &&& (255 : Int32)).toUInt32 % 65536).toInt32 then some (((((aByt.getD 4 []).getD a1.toNatClampNeg (0 : Int32)) &&& (255 : Int32)).toUInt32 % 65536).toInt32) else none) else none)))
set_option maxHeartbeats 4000000 in
set_option maxRecDepth 100000 in
theorem J_J1_charAt_3b067_1015 (l : Launch) (g : aWg) (N : Nat) (a1 : Int32) (S : aSt) {r : Int32} (hf : J1_charAt_3b067_1015 N a1 = (some r)) : aJ l g yJ1_charAt_3b067 M_J1_charAt_3b067 [.ref 1015, .int a1] LAY S (some (.int r)) LAY S 0 0 := by
  refine aJ_of (by decide +kernel) rfl (Nat.le_of_ble_eq_true rfl) (fun h => nomatch h) ?_
  intro C hg hl hC hz hF
  subst hg; subst hl
  have hT := ok_J1_charAt_3b067
  unfold J1_charAt_3b067_1015 at hf
  show aX C M_J1_charAt_3b067 0 0 (0, [(0, .ref 1015), (1, .int a1)], [], LAY, S)
  refine aRun_ok hC hT 3 (cf' := (3, [(0, .ref 1015), (1, .int a1)], [.int (6 : Int32), .int a1], LAY, S)) (by rfl) ?_
  obtain ⟨w1, ew2, hf⟩ := aBnE hf
  refine aCallS (As := [.int a1, .int (6 : Int32)]) (rest := []) hC hT rfl k_J1_charAt_3b067_9.1 _ k_J1_charAt_3b067_9.2 (by rfl) (Nat.le_of_ble_eq_true rfl) (by decide) (J_J0_checkIndex_df160 C.2.2.1 C.1 N a1 (6 : Int32) S ew2) ?_
  refine aRun_ok hC hT 2 (cf' := (8, [(0, .ref 1015), (1, .int a1)], [.int a1, .ref 1015], LAY, S)) (by rfl) ?_
  obtain ⟨hin3, hf⟩ := aGdE hf
  refine aBald hC hT rfl (by decide) (by decide) hin3 ?_
  refine aRun_ok hC hT 3 (cf' := (14, [(0, .ref 1015), (1, .int a1)], [.int ((((aByt.getD 4 []).getD a1.toNatClampNeg (0 : Int32)) &&& (255 : Int32)).toUInt32 % 65536).toInt32], LAY, S)) (by rfl) ?_
  obtain ⟨hb4, hf⟩ := aGdE hf
  have e9 := Option.some.inj hf; subst e9
  exact aRetZ hC hT hF rfl hb4 rfl
def J0_charAt_5068e_1006 (N : Nat) (a1 : Int32) : Option (Int32) := (Option.bind (J1_charAt_3b067_1015 N a1) (fun w3 => (if narrow .char (.int w3) = .int w3 then some (w3) else none)))
set_option maxHeartbeats 4000000 in
set_option maxRecDepth 100000 in
theorem J_J0_charAt_5068e_1006 (l : Launch) (g : aWg) (N : Nat) (a1 : Int32) (S : aSt) {r : Int32} (hf : J0_charAt_5068e_1006 N a1 = (some r)) : aJ l g yJ0_charAt_5068e M_J0_charAt_5068e [.ref 1006, .int a1] LAY S (some (.int r)) LAY S 0 0 := by
  refine aJ_of (by decide +kernel) rfl (Nat.le_of_ble_eq_true rfl) (fun h => nomatch h) ?_
  intro C hg hl hC hz hF
  subst hg; subst hl
  have hT := ok_J0_charAt_5068e
  unfold J0_charAt_5068e_1006 at hf
  show aX C M_J0_charAt_5068e 0 0 (0, [(0, .ref 1006), (1, .int a1)], [], LAY, S)
  refine aRun_ok hC hT 1 (cf' := (1, [(0, .ref 1006), (1, .int a1)], [.ref 1006], LAY, S)) (by rfl) ?_
  refine aCallW (b := 1006) (As := []) (rest := []) hC hT rfl k_J0_charAt_5068e_492.1 _ _ k_J0_charAt_5068e_492.2 (by decide) (by rfl) (by rfl) (Nat.le_of_ble_eq_true rfl) (by decide) (J_J0_isLatin1_aae02_1006 C.2.2.1 C.1  S rfl) ?_
  refine aIf_eq hC hT (tgt := 16) rfl (by decide) (fun h => absurd h (by decide)) (fun _ => ?_)
  refine aRun_ok hC hT 3 (cf' := (12, [(0, .ref 1006), (1, .int a1)], [.int a1, .ref 1015], LAY, S)) (by rfl) ?_
  obtain ⟨w3, ew4, hf⟩ := aBnE hf
  refine aCallS (As := [.ref 1015, .int a1]) (rest := []) hC hT rfl k_J0_charAt_5068e_495.1 _ k_J0_charAt_5068e_495.2 (by rfl) (Nat.le_of_ble_eq_true rfl) (by decide) (J_J1_charAt_3b067_1015 C.2.2.1 C.1 N a1 S ew4) ?_
  obtain ⟨hb5, hf⟩ := aGdE hf
  have e9 := Option.some.inj hf; subst e9
  exact aRetZ hC hT hF rfl hb5 rfl
def X9_is_1_1006_b15 (N : Nat) (S : aSt) (rec15 : Int32 → Int32 → Option (Int32)) (v2 : Int32) (v4 : Int32) : Option (Int32) := (aLet (J0_length_8abf5_1006) (fun w4 => (if w4 ≤ v4 then some ((1 : Int32)) else (Option.bind (J0_charAt_5068e_1006 N v4) (fun w7 => (aLet (X6_at_2 (v2 + v4) S) (fun w9 => (if w7 = w9 then (rec15 v2 (v4 + (1 : Int32))) else some ((0 : Int32))))))))))
set_option maxHeartbeats 4000000 in
set_option maxRecDepth 100000 in
theorem X9_is_1_1006_b15_ok {C : aC} {N : Nat} {S : aSt} {rec15 : Int32 → Int32 → Option (Int32)} (hC : aCx C M_X9_is) {r : Int32} (hF : aFin C (some (.int r)) LAY S 0 0) (hrec15 : ∀ (v2 : Int32) (v4 : Int32), rec15 v2 v4 = (some r) → aX C M_X9_is 0 0 (15, [(0, .ref 1), (1, .ref 1006), (2, .int v2), (4, .int v4)], [], LAY, S)) (v2 : Int32) (v4 : Int32) (hf : X9_is_1_1006_b15 N S rec15 v2 v4 = (some r)) : aX C M_X9_is 0 0 (15, [(0, .ref 1), (1, .ref 1006), (2, .int v2), (4, .int v4)], [], LAY, S) := by
  have hT := ok_X9_is
  unfold X9_is_1_1006_b15 at hf
  refine aRun_ok hC hT 2 (cf' := (18, [(0, .ref 1), (1, .ref 1006), (2, .int v2), (4, .int v4)], [.ref 1006, .int v4], LAY, S)) (by rfl) ?_
  obtain ⟨w4, ew5, hf⟩ := aLetE hf
  refine aCallW (b := 1006) (As := []) (rest := [.int v4]) hC hT rfl k_X9_is_111.1 _ _ k_X9_is_111.2 (by decide) (by rfl) (by rfl) (Nat.le_of_ble_eq_true rfl) (by decide) (J_J0_length_8abf5_1006 C.2.2.1 C.1  S ew5) ?_
  refine aCmp_ge hC hT (tgt := 52) rfl (by decide) (fun hc6 => ?_) (fun hc6 => ?_)
  · have hf := aIfT hf hc6
    refine aRun_ok hC hT 1 (cf' := (53, [(0, .ref 1), (1, .ref 1006), (2, .int v2), (4, .int v4)], [.int (1 : Int32)], LAY, S)) (by rfl) ?_
    have e9 := Option.some.inj hf; subst e9
    exact aRetB hC hT hF rfl (Or.inr rfl) rfl
  · have hf := aIfF hf hc6
    refine aRun_ok hC hT 2 (cf' := (27, [(0, .ref 1), (1, .ref 1006), (2, .int v2), (4, .int v4)], [.int v4, .ref 1006], LAY, S)) (by rfl) ?_
    obtain ⟨w7, ew8, hf⟩ := aBnE hf
    refine aCallW (b := 1006) (As := [.int v4]) (rest := []) hC hT rfl k_X9_is_116.1 _ _ k_X9_is_116.2 (by decide) (by rfl) (by rfl) (Nat.le_of_ble_eq_true rfl) (by decide) (J_J0_charAt_5068e_1006 C.2.2.1 C.1 N v4 S ew8) ?_
    refine aRun_ok hC hT 5 (cf' := (38, [(0, .ref 1), (1, .ref 1006), (2, .int v2), (4, .int v4)], [.int (v2 + v4), .ref 2, .int w7], LAY, S)) (by rfl) ?_
    obtain ⟨w9, ew10, hf⟩ := aLetE hf
    refine aCallS (As := [.ref 2, .int (v2 + v4)]) (rest := [.int w7]) hC hT rfl k_X9_is_40.1 _ k_X9_is_40.2 (by rfl) (Nat.le_of_ble_eq_true rfl) (by decide) (J_X6_at_2 C.2.2.1 C.1 (v2 + v4) S ew10) ?_
    refine aCmp_eq hC hT (tgt := 46) rfl (by decide) (fun hc11 => ?_) (fun hc11 => ?_)
    · have hf := aIfT hf hc11
      refine aRun_ok hC hT 2 (cf' := (15, [(4, .int (v4 + (1 : Int32))), (0, .ref 1), (1, .ref 1006), (2, .int v2)], [], LAY, S)) (by rfl) ?_
      refine aLocs [1, 2, 3, 0] (lv' := [(0, .ref 1), (1, .ref 1006), (2, .int v2), (4, .int (v4 + (1 : Int32)))]) rfl ?_
      exact hrec15 v2 (v4 + (1 : Int32)) hf
    · have hf := aIfF hf hc11
      refine aRun_ok hC hT 1 (cf' := (45, [(0, .ref 1), (1, .ref 1006), (2, .int v2), (4, .int v4)], [.int (0 : Int32)], LAY, S)) (by rfl) ?_
      have e9 := Option.some.inj hf; subst e9
      exact aRetB hC hT hF rfl (Or.inl rfl) rfl
def X9_is_1_1006_l15 (N : Nat) (S : aSt) : Nat → Int32 → Int32 → Option (Int32)
  | 0 => fun _ _ => none
  | n + 1 => X9_is_1_1006_b15 N S (X9_is_1_1006_l15 N S n)
theorem X9_is_1_1006_l15_ok {C : aC} {N : Nat} {S : aSt} (hC : aCx C M_X9_is) {r : Int32} (hF : aFin C (some (.int r)) LAY S 0 0) : ∀ (n : Nat) (v2 : Int32) (v4 : Int32), X9_is_1_1006_l15 N S n v2 v4 = (some r) → aX C M_X9_is 0 0 (15, [(0, .ref 1), (1, .ref 1006), (2, .int v2), (4, .int v4)], [], LAY, S)
  | 0, _, _,  h => nomatch (show (none : Option (Int32)) = some _ from h)
  | n + 1, v2, v4,  h => X9_is_1_1006_b15_ok hC hF (fun v2 v4 h => X9_is_1_1006_l15_ok hC hF n v2 v4 h) v2 v4 h
def X9_is_1_1006 (N : Nat) (a2 : Int32) (a3 : Int32) (S : aSt) : Option (Int32) := (aLet (J0_length_8abf5_1006) (fun w1 => (if (a3 - a2) = w1 then (X9_is_1_1006_l15 N S N a2 (0 : Int32)) else some ((0 : Int32)))))
set_option maxHeartbeats 4000000 in
set_option maxRecDepth 100000 in
theorem J_X9_is_1_1006 (l : Launch) (g : aWg) (N : Nat) (a2 : Int32) (a3 : Int32) (S : aSt) {r : Int32} (hf : X9_is_1_1006 N a2 a3 S = (some r)) : aJ l g yX9_is M_X9_is [.ref 1, .ref 1006, .int a2, .int a3] LAY S (some (.int r)) LAY S 0 0 := by
  refine aJ_of (by decide +kernel) rfl (Nat.le_of_ble_eq_true rfl) (fun h => nomatch h) ?_
  intro C hg hl hC hz hF
  subst hg; subst hl
  have hT := ok_X9_is
  unfold X9_is_1_1006 at hf
  show aX C M_X9_is 0 0 (0, [(0, .ref 1), (1, .ref 1006), (2, .int a2), (3, .int a3)], [], LAY, S)
  refine aRun_ok hC hT 4 (cf' := (4, [(0, .ref 1), (1, .ref 1006), (2, .int a2), (3, .int a3)], [.ref 1006, .int (a3 - a2)], LAY, S)) (by rfl) ?_
  obtain ⟨w1, ew2, hf⟩ := aLetE hf
  refine aCallW (b := 1006) (As := []) (rest := [.int (a3 - a2)]) hC hT rfl k_X9_is_111.1 _ _ k_X9_is_111.2 (by decide) (by rfl) (by rfl) (Nat.le_of_ble_eq_true rfl) (by decide) (J_J0_length_8abf5_1006 C.2.2.1 C.1  S ew2) ?_
  refine aCmp_eq hC hT (tgt := 12) rfl (by decide) (fun hc3 => ?_) (fun hc3 => ?_)
  · have hf := aIfT hf hc3
    refine aRun_ok hC hT 2 (cf' := (15, [(4, .int (0 : Int32)), (0, .ref 1), (1, .ref 1006), (2, .int a2), (3, .int a3)], [], LAY, S)) (by rfl) ?_
    refine aLocs [1, 2, 3, 0] (lv' := [(0, .ref 1), (1, .ref 1006), (2, .int a2), (4, .int (0 : Int32))]) rfl ?_
    exact X9_is_1_1006_l15_ok hC hF N a2 (0 : Int32) hf
  · have hf := aIfF hf hc3
    refine aRun_ok hC hT 1 (cf' := (11, [(0, .ref 1), (1, .ref 1006), (2, .int a2), (3, .int a3)], [.int (0 : Int32)], LAY, S)) (by rfl) ?_
    have e9 := Option.some.inj hf; subst e9
    exact aRetB hC hT hF rfl (Or.inl rfl) rfl
def J0_coder_7d493_1007 : Int32 := (0 : Int32)
set_option maxHeartbeats 4000000 in
set_option maxRecDepth 100000 in
theorem J_J0_coder_7d493_1007 (l : Launch) (g : aWg) (S : aSt) {r : Int32} (hf : J0_coder_7d493_1007 = r) : aJ l g yJ0_coder_7d493 M_J0_coder_7d493 [.ref 1007] LAY S (some (.int r)) LAY S 0 0 := by
  refine aJ_of (by decide +kernel) rfl (Nat.le_of_ble_eq_true rfl) (fun h => nomatch h) ?_
  intro C hg hl hC hz hF
  subst hg; subst hl
  have hT := ok_J0_coder_7d493
  unfold J0_coder_7d493_1007 at hf
  show aX C M_J0_coder_7d493 0 0 (0, [(0, .ref 1007)], [], LAY, S)
  refine aRun_ok hC hT 1 (cf' := (3, [(0, .ref 1007)], [.int (1 : Int32)], LAY, S)) (by rfl) ?_
  refine aIf_eq hC hT (tgt := 13) rfl (by decide) (fun h => absurd h (by decide)) (fun _ => ?_)
  refine aRun_ok hC hT 3 (cf' := (14, [(0, .ref 1007)], [.int (0 : Int32)], LAY, S)) (by rfl) ?_
  subst hf
  exact aRetZ hC hT hF rfl (by decide) rfl
def J0_length_8abf5_1007 : Int32 := ((5 : Int32) >>> ((0 : Int32) &&& 31))
set_option maxHeartbeats 4000000 in
set_option maxRecDepth 100000 in
theorem J_J0_length_8abf5_1007 (l : Launch) (g : aWg) (S : aSt) {r : Int32} (hf : J0_length_8abf5_1007 = r) : aJ l g yJ0_length_8abf5 M_J0_length_8abf5 [.ref 1007] LAY S (some (.int r)) LAY S 0 0 := by
  refine aJ_of (by decide +kernel) rfl (Nat.le_of_ble_eq_true rfl) (fun h => nomatch h) ?_
  intro C hg hl hC hz hF
  subst hg; subst hl
  have hT := ok_J0_length_8abf5
  unfold J0_length_8abf5_1007 at hf
  show aX C M_J0_length_8abf5 0 0 (0, [(0, .ref 1007)], [], LAY, S)
  refine aRun_ok hC hT 4 (cf' := (6, [(0, .ref 1007)], [.ref 1007, .int (5 : Int32)], LAY, S)) (by rfl) ?_
  refine aCallW (b := 1007) (As := []) (rest := [.int (5 : Int32)]) hC hT rfl k_J0_length_8abf5_335.1 _ _ k_J0_length_8abf5_335.2 (by decide) (by rfl) (by rfl) (Nat.le_of_ble_eq_true rfl) (by decide) (J_J0_coder_7d493_1007 C.2.2.1 C.1  S rfl) ?_
  refine aRun_ok hC hT 1 (cf' := (10, [(0, .ref 1007)], [.int ((5 : Int32) >>> ((0 : Int32) &&& 31))], LAY, S)) (by rfl) ?_
  subst hf
  exact aRetI hC hT hF rfl rfl
def J0_isLatin1_aae02_1007 : Int32 := (1 : Int32)
set_option maxHeartbeats 4000000 in
set_option maxRecDepth 100000 in
theorem J_J0_isLatin1_aae02_1007 (l : Launch) (g : aWg) (S : aSt) {r : Int32} (hf : J0_isLatin1_aae02_1007 = r) : aJ l g yJ0_isLatin1_aae02 M_J0_isLatin1_aae02 [.ref 1007] LAY S (some (.int r)) LAY S 0 0 := by
  refine aJ_of (by decide +kernel) rfl (Nat.le_of_ble_eq_true rfl) (fun h => nomatch h) ?_
  intro C hg hl hC hz hF
  subst hg; subst hl
  have hT := ok_J0_isLatin1_aae02
  unfold J0_isLatin1_aae02_1007 at hf
  show aX C M_J0_isLatin1_aae02 0 0 (0, [(0, .ref 1007)], [], LAY, S)
  refine aRun_ok hC hT 1 (cf' := (3, [(0, .ref 1007)], [.int (1 : Int32)], LAY, S)) (by rfl) ?_
  refine aIf_eq hC hT (tgt := 17) rfl (by decide) (fun h => absurd h (by decide)) (fun _ => ?_)
  refine aRun_ok hC hT 2 (cf' := (10, [(0, .ref 1007)], [.int (0 : Int32)], LAY, S)) (by rfl) ?_
  refine aIf_ne hC hT (tgt := 17) rfl (by decide) (fun h => absurd h (by decide)) (fun _ => ?_)
  refine aRun_ok hC hT 2 (cf' := (18, [(0, .ref 1007)], [.int (1 : Int32)], LAY, S)) (by rfl) ?_
  subst hf
  exact aRetB hC hT hF rfl (Or.inr rfl) rfl
def J1_charAt_3b067_1016 (N : Nat) (a1 : Int32) : Option (Int32) := (Option.bind (J0_checkIndex_df160 N a1 (5 : Int32)) (fun w1 => (if aIx a1 5 = true then (if narrow .char (.int ((((aByt.getD 5 []).getD a1.toNatClampNeg (0 : Int32)) &&& (255 : Int32)).toUInt32 % 65536).toInt32) = .int ((((aByt.getD 5 []).getD a1.toNatClampNeg (0 : Int32)) &&& (255 : Int32)).toUInt32 % 65536).toInt32 then some (((((aByt.getD 5 []).getD a1.toNatClampNeg (0 : Int32)) &&& (255 : Int32)).toUInt32 % 65536).toInt32) else none) else none)))
set_option maxHeartbeats 4000000 in
set_option maxRecDepth 100000 in
theorem J_J1_charAt_3b067_1016 (l : Launch) (g : aWg) (N : Nat) (a1 : Int32) (S : aSt) {r : Int32} (hf : J1_charAt_3b067_1016 N a1 = (some r)) : aJ l g yJ1_charAt_3b067 M_J1_charAt_3b067 [.ref 1016, .int a1] LAY S (some (.int r)) LAY S 0 0 := by
  refine aJ_of (by decide +kernel) rfl (Nat.le_of_ble_eq_true rfl) (fun h => nomatch h) ?_
  intro C hg hl hC hz hF
  subst hg; subst hl
  have hT := ok_J1_charAt_3b067
  unfold J1_charAt_3b067_1016 at hf
  show aX C M_J1_charAt_3b067 0 0 (0, [(0, .ref 1016), (1, .int a1)], [], LAY, S)
  refine aRun_ok hC hT 3 (cf' := (3, [(0, .ref 1016), (1, .int a1)], [.int (5 : Int32), .int a1], LAY, S)) (by rfl) ?_
  obtain ⟨w1, ew2, hf⟩ := aBnE hf
  refine aCallS (As := [.int a1, .int (5 : Int32)]) (rest := []) hC hT rfl k_J1_charAt_3b067_9.1 _ k_J1_charAt_3b067_9.2 (by rfl) (Nat.le_of_ble_eq_true rfl) (by decide) (J_J0_checkIndex_df160 C.2.2.1 C.1 N a1 (5 : Int32) S ew2) ?_
  refine aRun_ok hC hT 2 (cf' := (8, [(0, .ref 1016), (1, .int a1)], [.int a1, .ref 1016], LAY, S)) (by rfl) ?_
  obtain ⟨hin3, hf⟩ := aGdE hf
  refine aBald hC hT rfl (by decide) (by decide) hin3 ?_
  refine aRun_ok hC hT 3 (cf' := (14, [(0, .ref 1016), (1, .int a1)], [.int ((((aByt.getD 5 []).getD a1.toNatClampNeg (0 : Int32)) &&& (255 : Int32)).toUInt32 % 65536).toInt32], LAY, S)) (by rfl) ?_
  obtain ⟨hb4, hf⟩ := aGdE hf
  have e9 := Option.some.inj hf; subst e9
  exact aRetZ hC hT hF rfl hb4 rfl
def J0_charAt_5068e_1007 (N : Nat) (a1 : Int32) : Option (Int32) := (Option.bind (J1_charAt_3b067_1016 N a1) (fun w3 => (if narrow .char (.int w3) = .int w3 then some (w3) else none)))
set_option maxHeartbeats 4000000 in
set_option maxRecDepth 100000 in
theorem J_J0_charAt_5068e_1007 (l : Launch) (g : aWg) (N : Nat) (a1 : Int32) (S : aSt) {r : Int32} (hf : J0_charAt_5068e_1007 N a1 = (some r)) : aJ l g yJ0_charAt_5068e M_J0_charAt_5068e [.ref 1007, .int a1] LAY S (some (.int r)) LAY S 0 0 := by
  refine aJ_of (by decide +kernel) rfl (Nat.le_of_ble_eq_true rfl) (fun h => nomatch h) ?_
  intro C hg hl hC hz hF
  subst hg; subst hl
  have hT := ok_J0_charAt_5068e
  unfold J0_charAt_5068e_1007 at hf
  show aX C M_J0_charAt_5068e 0 0 (0, [(0, .ref 1007), (1, .int a1)], [], LAY, S)
  refine aRun_ok hC hT 1 (cf' := (1, [(0, .ref 1007), (1, .int a1)], [.ref 1007], LAY, S)) (by rfl) ?_
  refine aCallW (b := 1007) (As := []) (rest := []) hC hT rfl k_J0_charAt_5068e_492.1 _ _ k_J0_charAt_5068e_492.2 (by decide) (by rfl) (by rfl) (Nat.le_of_ble_eq_true rfl) (by decide) (J_J0_isLatin1_aae02_1007 C.2.2.1 C.1  S rfl) ?_
  refine aIf_eq hC hT (tgt := 16) rfl (by decide) (fun h => absurd h (by decide)) (fun _ => ?_)
  refine aRun_ok hC hT 3 (cf' := (12, [(0, .ref 1007), (1, .int a1)], [.int a1, .ref 1016], LAY, S)) (by rfl) ?_
  obtain ⟨w3, ew4, hf⟩ := aBnE hf
  refine aCallS (As := [.ref 1016, .int a1]) (rest := []) hC hT rfl k_J0_charAt_5068e_495.1 _ k_J0_charAt_5068e_495.2 (by rfl) (Nat.le_of_ble_eq_true rfl) (by decide) (J_J1_charAt_3b067_1016 C.2.2.1 C.1 N a1 S ew4) ?_
  obtain ⟨hb5, hf⟩ := aGdE hf
  have e9 := Option.some.inj hf; subst e9
  exact aRetZ hC hT hF rfl hb5 rfl
def X9_is_1_1007_b15 (N : Nat) (S : aSt) (rec15 : Int32 → Int32 → Option (Int32)) (v2 : Int32) (v4 : Int32) : Option (Int32) := (aLet (J0_length_8abf5_1007) (fun w4 => (if w4 ≤ v4 then some ((1 : Int32)) else (Option.bind (J0_charAt_5068e_1007 N v4) (fun w7 => (aLet (X6_at_2 (v2 + v4) S) (fun w9 => (if w7 = w9 then (rec15 v2 (v4 + (1 : Int32))) else some ((0 : Int32))))))))))
set_option maxHeartbeats 4000000 in
set_option maxRecDepth 100000 in
theorem X9_is_1_1007_b15_ok {C : aC} {N : Nat} {S : aSt} {rec15 : Int32 → Int32 → Option (Int32)} (hC : aCx C M_X9_is) {r : Int32} (hF : aFin C (some (.int r)) LAY S 0 0) (hrec15 : ∀ (v2 : Int32) (v4 : Int32), rec15 v2 v4 = (some r) → aX C M_X9_is 0 0 (15, [(0, .ref 1), (1, .ref 1007), (2, .int v2), (4, .int v4)], [], LAY, S)) (v2 : Int32) (v4 : Int32) (hf : X9_is_1_1007_b15 N S rec15 v2 v4 = (some r)) : aX C M_X9_is 0 0 (15, [(0, .ref 1), (1, .ref 1007), (2, .int v2), (4, .int v4)], [], LAY, S) := by
  have hT := ok_X9_is
  unfold X9_is_1_1007_b15 at hf
  refine aRun_ok hC hT 2 (cf' := (18, [(0, .ref 1), (1, .ref 1007), (2, .int v2), (4, .int v4)], [.ref 1007, .int v4], LAY, S)) (by rfl) ?_
  obtain ⟨w4, ew5, hf⟩ := aLetE hf
  refine aCallW (b := 1007) (As := []) (rest := [.int v4]) hC hT rfl k_X9_is_111.1 _ _ k_X9_is_111.2 (by decide) (by rfl) (by rfl) (Nat.le_of_ble_eq_true rfl) (by decide) (J_J0_length_8abf5_1007 C.2.2.1 C.1  S ew5) ?_
  refine aCmp_ge hC hT (tgt := 52) rfl (by decide) (fun hc6 => ?_) (fun hc6 => ?_)
  · have hf := aIfT hf hc6
    refine aRun_ok hC hT 1 (cf' := (53, [(0, .ref 1), (1, .ref 1007), (2, .int v2), (4, .int v4)], [.int (1 : Int32)], LAY, S)) (by rfl) ?_
    have e9 := Option.some.inj hf; subst e9
    exact aRetB hC hT hF rfl (Or.inr rfl) rfl
  · have hf := aIfF hf hc6
    refine aRun_ok hC hT 2 (cf' := (27, [(0, .ref 1), (1, .ref 1007), (2, .int v2), (4, .int v4)], [.int v4, .ref 1007], LAY, S)) (by rfl) ?_
    obtain ⟨w7, ew8, hf⟩ := aBnE hf
    refine aCallW (b := 1007) (As := [.int v4]) (rest := []) hC hT rfl k_X9_is_116.1 _ _ k_X9_is_116.2 (by decide) (by rfl) (by rfl) (Nat.le_of_ble_eq_true rfl) (by decide) (J_J0_charAt_5068e_1007 C.2.2.1 C.1 N v4 S ew8) ?_
    refine aRun_ok hC hT 5 (cf' := (38, [(0, .ref 1), (1, .ref 1007), (2, .int v2), (4, .int v4)], [.int (v2 + v4), .ref 2, .int w7], LAY, S)) (by rfl) ?_
    obtain ⟨w9, ew10, hf⟩ := aLetE hf
    refine aCallS (As := [.ref 2, .int (v2 + v4)]) (rest := [.int w7]) hC hT rfl k_X9_is_40.1 _ k_X9_is_40.2 (by rfl) (Nat.le_of_ble_eq_true rfl) (by decide) (J_X6_at_2 C.2.2.1 C.1 (v2 + v4) S ew10) ?_
    refine aCmp_eq hC hT (tgt := 46) rfl (by decide) (fun hc11 => ?_) (fun hc11 => ?_)
    · have hf := aIfT hf hc11
      refine aRun_ok hC hT 2 (cf' := (15, [(4, .int (v4 + (1 : Int32))), (0, .ref 1), (1, .ref 1007), (2, .int v2)], [], LAY, S)) (by rfl) ?_
      refine aLocs [1, 2, 3, 0] (lv' := [(0, .ref 1), (1, .ref 1007), (2, .int v2), (4, .int (v4 + (1 : Int32)))]) rfl ?_
      exact hrec15 v2 (v4 + (1 : Int32)) hf
    · have hf := aIfF hf hc11
      refine aRun_ok hC hT 1 (cf' := (45, [(0, .ref 1), (1, .ref 1007), (2, .int v2), (4, .int v4)], [.int (0 : Int32)], LAY, S)) (by rfl) ?_
      have e9 := Option.some.inj hf; subst e9
      exact aRetB hC hT hF rfl (Or.inl rfl) rfl
def X9_is_1_1007_l15 (N : Nat) (S : aSt) : Nat → Int32 → Int32 → Option (Int32)
  | 0 => fun _ _ => none
  | n + 1 => X9_is_1_1007_b15 N S (X9_is_1_1007_l15 N S n)
theorem X9_is_1_1007_l15_ok {C : aC} {N : Nat} {S : aSt} (hC : aCx C M_X9_is) {r : Int32} (hF : aFin C (some (.int r)) LAY S 0 0) : ∀ (n : Nat) (v2 : Int32) (v4 : Int32), X9_is_1_1007_l15 N S n v2 v4 = (some r) → aX C M_X9_is 0 0 (15, [(0, .ref 1), (1, .ref 1007), (2, .int v2), (4, .int v4)], [], LAY, S)
  | 0, _, _,  h => nomatch (show (none : Option (Int32)) = some _ from h)
  | n + 1, v2, v4,  h => X9_is_1_1007_b15_ok hC hF (fun v2 v4 h => X9_is_1_1007_l15_ok hC hF n v2 v4 h) v2 v4 h
def X9_is_1_1007 (N : Nat) (a2 : Int32) (a3 : Int32) (S : aSt) : Option (Int32) := (aLet (J0_length_8abf5_1007) (fun w1 => (if (a3 - a2) = w1 then (X9_is_1_1007_l15 N S N a2 (0 : Int32)) else some ((0 : Int32)))))
set_option maxHeartbeats 4000000 in
set_option maxRecDepth 100000 in
theorem J_X9_is_1_1007 (l : Launch) (g : aWg) (N : Nat) (a2 : Int32) (a3 : Int32) (S : aSt) {r : Int32} (hf : X9_is_1_1007 N a2 a3 S = (some r)) : aJ l g yX9_is M_X9_is [.ref 1, .ref 1007, .int a2, .int a3] LAY S (some (.int r)) LAY S 0 0 := by
  refine aJ_of (by decide +kernel) rfl (Nat.le_of_ble_eq_true rfl) (fun h => nomatch h) ?_
  intro C hg hl hC hz hF
  subst hg; subst hl
  have hT := ok_X9_is
  unfold X9_is_1_1007 at hf
  show aX C M_X9_is 0 0 (0, [(0, .ref 1), (1, .ref 1007), (2, .int a2), (3, .int a3)], [], LAY, S)
  refine aRun_ok hC hT 4 (cf' := (4, [(0, .ref 1), (1, .ref 1007), (2, .int a2), (3, .int a3)], [.ref 1007, .int (a3 - a2)], LAY, S)) (by rfl) ?_
  obtain ⟨w1, ew2, hf⟩ := aLetE hf
  refine aCallW (b := 1007) (As := []) (rest := [.int (a3 - a2)]) hC hT rfl k_X9_is_111.1 _ _ k_X9_is_111.2 (by decide) (by rfl) (by rfl) (Nat.le_of_ble_eq_true rfl) (by decide) (J_J0_length_8abf5_1007 C.2.2.1 C.1  S ew2) ?_
  refine aCmp_eq hC hT (tgt := 12) rfl (by decide) (fun hc3 => ?_) (fun hc3 => ?_)
  · have hf := aIfT hf hc3
    refine aRun_ok hC hT 2 (cf' := (15, [(4, .int (0 : Int32)), (0, .ref 1), (1, .ref 1007), (2, .int a2), (3, .int a3)], [], LAY, S)) (by rfl) ?_
    refine aLocs [1, 2, 3, 0] (lv' := [(0, .ref 1), (1, .ref 1007), (2, .int a2), (4, .int (0 : Int32))]) rfl ?_
    exact X9_is_1_1007_l15_ok hC hF N a2 (0 : Int32) hf
  · have hf := aIfF hf hc3
    refine aRun_ok hC hT 1 (cf' := (11, [(0, .ref 1), (1, .ref 1007), (2, .int a2), (3, .int a3)], [.int (0 : Int32)], LAY, S)) (by rfl) ?_
    have e9 := Option.some.inj hf; subst e9
    exact aRetB hC hT hF rfl (Or.inl rfl) rfl
def J0_coder_7d493_1008 : Int32 := (0 : Int32)
set_option maxHeartbeats 4000000 in
set_option maxRecDepth 100000 in
theorem J_J0_coder_7d493_1008 (l : Launch) (g : aWg) (S : aSt) {r : Int32} (hf : J0_coder_7d493_1008 = r) : aJ l g yJ0_coder_7d493 M_J0_coder_7d493 [.ref 1008] LAY S (some (.int r)) LAY S 0 0 := by
  refine aJ_of (by decide +kernel) rfl (Nat.le_of_ble_eq_true rfl) (fun h => nomatch h) ?_
  intro C hg hl hC hz hF
  subst hg; subst hl
  have hT := ok_J0_coder_7d493
  unfold J0_coder_7d493_1008 at hf
  show aX C M_J0_coder_7d493 0 0 (0, [(0, .ref 1008)], [], LAY, S)
  refine aRun_ok hC hT 1 (cf' := (3, [(0, .ref 1008)], [.int (1 : Int32)], LAY, S)) (by rfl) ?_
  refine aIf_eq hC hT (tgt := 13) rfl (by decide) (fun h => absurd h (by decide)) (fun _ => ?_)
  refine aRun_ok hC hT 3 (cf' := (14, [(0, .ref 1008)], [.int (0 : Int32)], LAY, S)) (by rfl) ?_
  subst hf
  exact aRetZ hC hT hF rfl (by decide) rfl
def J0_length_8abf5_1008 : Int32 := ((6 : Int32) >>> ((0 : Int32) &&& 31))
set_option maxHeartbeats 4000000 in
set_option maxRecDepth 100000 in
theorem J_J0_length_8abf5_1008 (l : Launch) (g : aWg) (S : aSt) {r : Int32} (hf : J0_length_8abf5_1008 = r) : aJ l g yJ0_length_8abf5 M_J0_length_8abf5 [.ref 1008] LAY S (some (.int r)) LAY S 0 0 := by
  refine aJ_of (by decide +kernel) rfl (Nat.le_of_ble_eq_true rfl) (fun h => nomatch h) ?_
  intro C hg hl hC hz hF
  subst hg; subst hl
  have hT := ok_J0_length_8abf5
  unfold J0_length_8abf5_1008 at hf
  show aX C M_J0_length_8abf5 0 0 (0, [(0, .ref 1008)], [], LAY, S)
  refine aRun_ok hC hT 4 (cf' := (6, [(0, .ref 1008)], [.ref 1008, .int (6 : Int32)], LAY, S)) (by rfl) ?_
  refine aCallW (b := 1008) (As := []) (rest := [.int (6 : Int32)]) hC hT rfl k_J0_length_8abf5_335.1 _ _ k_J0_length_8abf5_335.2 (by decide) (by rfl) (by rfl) (Nat.le_of_ble_eq_true rfl) (by decide) (J_J0_coder_7d493_1008 C.2.2.1 C.1  S rfl) ?_
  refine aRun_ok hC hT 1 (cf' := (10, [(0, .ref 1008)], [.int ((6 : Int32) >>> ((0 : Int32) &&& 31))], LAY, S)) (by rfl) ?_
  subst hf
  exact aRetI hC hT hF rfl rfl
def J0_isLatin1_aae02_1008 : Int32 := (1 : Int32)
set_option maxHeartbeats 4000000 in
set_option maxRecDepth 100000 in
theorem J_J0_isLatin1_aae02_1008 (l : Launch) (g : aWg) (S : aSt) {r : Int32} (hf : J0_isLatin1_aae02_1008 = r) : aJ l g yJ0_isLatin1_aae02 M_J0_isLatin1_aae02 [.ref 1008] LAY S (some (.int r)) LAY S 0 0 := by
  refine aJ_of (by decide +kernel) rfl (Nat.le_of_ble_eq_true rfl) (fun h => nomatch h) ?_
  intro C hg hl hC hz hF
  subst hg; subst hl
  have hT := ok_J0_isLatin1_aae02
  unfold J0_isLatin1_aae02_1008 at hf
  show aX C M_J0_isLatin1_aae02 0 0 (0, [(0, .ref 1008)], [], LAY, S)
  refine aRun_ok hC hT 1 (cf' := (3, [(0, .ref 1008)], [.int (1 : Int32)], LAY, S)) (by rfl) ?_
  refine aIf_eq hC hT (tgt := 17) rfl (by decide) (fun h => absurd h (by decide)) (fun _ => ?_)
  refine aRun_ok hC hT 2 (cf' := (10, [(0, .ref 1008)], [.int (0 : Int32)], LAY, S)) (by rfl) ?_
  refine aIf_ne hC hT (tgt := 17) rfl (by decide) (fun h => absurd h (by decide)) (fun _ => ?_)
  refine aRun_ok hC hT 2 (cf' := (18, [(0, .ref 1008)], [.int (1 : Int32)], LAY, S)) (by rfl) ?_
  subst hf
  exact aRetB hC hT hF rfl (Or.inr rfl) rfl
def J1_charAt_3b067_1017 (N : Nat) (a1 : Int32) : Option (Int32) := (Option.bind (J0_checkIndex_df160 N a1 (6 : Int32)) (fun w1 => (if aIx a1 6 = true then (if narrow .char (.int ((((aByt.getD 6 []).getD a1.toNatClampNeg (0 : Int32)) &&& (255 : Int32)).toUInt32 % 65536).toInt32) = .int ((((aByt.getD 6 []).getD a1.toNatClampNeg (0 : Int32)) &&& (255 : Int32)).toUInt32 % 65536).toInt32 then some (((((aByt.getD 6 []).getD a1.toNatClampNeg (0 : Int32)) &&& (255 : Int32)).toUInt32 % 65536).toInt32) else none) else none)))
set_option maxHeartbeats 4000000 in
set_option maxRecDepth 100000 in
theorem J_J1_charAt_3b067_1017 (l : Launch) (g : aWg) (N : Nat) (a1 : Int32) (S : aSt) {r : Int32} (hf : J1_charAt_3b067_1017 N a1 = (some r)) : aJ l g yJ1_charAt_3b067 M_J1_charAt_3b067 [.ref 1017, .int a1] LAY S (some (.int r)) LAY S 0 0 := by
  refine aJ_of (by decide +kernel) rfl (Nat.le_of_ble_eq_true rfl) (fun h => nomatch h) ?_
  intro C hg hl hC hz hF
  subst hg; subst hl
  have hT := ok_J1_charAt_3b067
  unfold J1_charAt_3b067_1017 at hf
  show aX C M_J1_charAt_3b067 0 0 (0, [(0, .ref 1017), (1, .int a1)], [], LAY, S)
  refine aRun_ok hC hT 3 (cf' := (3, [(0, .ref 1017), (1, .int a1)], [.int (6 : Int32), .int a1], LAY, S)) (by rfl) ?_
  obtain ⟨w1, ew2, hf⟩ := aBnE hf
  refine aCallS (As := [.int a1, .int (6 : Int32)]) (rest := []) hC hT rfl k_J1_charAt_3b067_9.1 _ k_J1_charAt_3b067_9.2 (by rfl) (Nat.le_of_ble_eq_true rfl) (by decide) (J_J0_checkIndex_df160 C.2.2.1 C.1 N a1 (6 : Int32) S ew2) ?_
  refine aRun_ok hC hT 2 (cf' := (8, [(0, .ref 1017), (1, .int a1)], [.int a1, .ref 1017], LAY, S)) (by rfl) ?_
  obtain ⟨hin3, hf⟩ := aGdE hf
  refine aBald hC hT rfl (by decide) (by decide) hin3 ?_
  refine aRun_ok hC hT 3 (cf' := (14, [(0, .ref 1017), (1, .int a1)], [.int ((((aByt.getD 6 []).getD a1.toNatClampNeg (0 : Int32)) &&& (255 : Int32)).toUInt32 % 65536).toInt32], LAY, S)) (by rfl) ?_
  obtain ⟨hb4, hf⟩ := aGdE hf
  have e9 := Option.some.inj hf; subst e9
  exact aRetZ hC hT hF rfl hb4 rfl
def J0_charAt_5068e_1008 (N : Nat) (a1 : Int32) : Option (Int32) := (Option.bind (J1_charAt_3b067_1017 N a1) (fun w3 => (if narrow .char (.int w3) = .int w3 then some (w3) else none)))
set_option maxHeartbeats 4000000 in
set_option maxRecDepth 100000 in
theorem J_J0_charAt_5068e_1008 (l : Launch) (g : aWg) (N : Nat) (a1 : Int32) (S : aSt) {r : Int32} (hf : J0_charAt_5068e_1008 N a1 = (some r)) : aJ l g yJ0_charAt_5068e M_J0_charAt_5068e [.ref 1008, .int a1] LAY S (some (.int r)) LAY S 0 0 := by
  refine aJ_of (by decide +kernel) rfl (Nat.le_of_ble_eq_true rfl) (fun h => nomatch h) ?_
  intro C hg hl hC hz hF
  subst hg; subst hl
  have hT := ok_J0_charAt_5068e
  unfold J0_charAt_5068e_1008 at hf
  show aX C M_J0_charAt_5068e 0 0 (0, [(0, .ref 1008), (1, .int a1)], [], LAY, S)
  refine aRun_ok hC hT 1 (cf' := (1, [(0, .ref 1008), (1, .int a1)], [.ref 1008], LAY, S)) (by rfl) ?_
  refine aCallW (b := 1008) (As := []) (rest := []) hC hT rfl k_J0_charAt_5068e_492.1 _ _ k_J0_charAt_5068e_492.2 (by decide) (by rfl) (by rfl) (Nat.le_of_ble_eq_true rfl) (by decide) (J_J0_isLatin1_aae02_1008 C.2.2.1 C.1  S rfl) ?_
  refine aIf_eq hC hT (tgt := 16) rfl (by decide) (fun h => absurd h (by decide)) (fun _ => ?_)
  refine aRun_ok hC hT 3 (cf' := (12, [(0, .ref 1008), (1, .int a1)], [.int a1, .ref 1017], LAY, S)) (by rfl) ?_
  obtain ⟨w3, ew4, hf⟩ := aBnE hf
  refine aCallS (As := [.ref 1017, .int a1]) (rest := []) hC hT rfl k_J0_charAt_5068e_495.1 _ k_J0_charAt_5068e_495.2 (by rfl) (Nat.le_of_ble_eq_true rfl) (by decide) (J_J1_charAt_3b067_1017 C.2.2.1 C.1 N a1 S ew4) ?_
  obtain ⟨hb5, hf⟩ := aGdE hf
  have e9 := Option.some.inj hf; subst e9
  exact aRetZ hC hT hF rfl hb5 rfl
def X9_is_1_1008_b15 (N : Nat) (S : aSt) (rec15 : Int32 → Int32 → Option (Int32)) (v2 : Int32) (v4 : Int32) : Option (Int32) := (aLet (J0_length_8abf5_1008) (fun w4 => (if w4 ≤ v4 then some ((1 : Int32)) else (Option.bind (J0_charAt_5068e_1008 N v4) (fun w7 => (aLet (X6_at_2 (v2 + v4) S) (fun w9 => (if w7 = w9 then (rec15 v2 (v4 + (1 : Int32))) else some ((0 : Int32))))))))))
set_option maxHeartbeats 4000000 in
set_option maxRecDepth 100000 in
theorem X9_is_1_1008_b15_ok {C : aC} {N : Nat} {S : aSt} {rec15 : Int32 → Int32 → Option (Int32)} (hC : aCx C M_X9_is) {r : Int32} (hF : aFin C (some (.int r)) LAY S 0 0) (hrec15 : ∀ (v2 : Int32) (v4 : Int32), rec15 v2 v4 = (some r) → aX C M_X9_is 0 0 (15, [(0, .ref 1), (1, .ref 1008), (2, .int v2), (4, .int v4)], [], LAY, S)) (v2 : Int32) (v4 : Int32) (hf : X9_is_1_1008_b15 N S rec15 v2 v4 = (some r)) : aX C M_X9_is 0 0 (15, [(0, .ref 1), (1, .ref 1008), (2, .int v2), (4, .int v4)], [], LAY, S) := by
  have hT := ok_X9_is
  unfold X9_is_1_1008_b15 at hf
  refine aRun_ok hC hT 2 (cf' := (18, [(0, .ref 1), (1, .ref 1008), (2, .int v2), (4, .int v4)], [.ref 1008, .int v4], LAY, S)) (by rfl) ?_
  obtain ⟨w4, ew5, hf⟩ := aLetE hf
  refine aCallW (b := 1008) (As := []) (rest := [.int v4]) hC hT rfl k_X9_is_111.1 _ _ k_X9_is_111.2 (by decide) (by rfl) (by rfl) (Nat.le_of_ble_eq_true rfl) (by decide) (J_J0_length_8abf5_1008 C.2.2.1 C.1  S ew5) ?_
  refine aCmp_ge hC hT (tgt := 52) rfl (by decide) (fun hc6 => ?_) (fun hc6 => ?_)
  · have hf := aIfT hf hc6
    refine aRun_ok hC hT 1 (cf' := (53, [(0, .ref 1), (1, .ref 1008), (2, .int v2), (4, .int v4)], [.int (1 : Int32)], LAY, S)) (by rfl) ?_
    have e9 := Option.some.inj hf; subst e9
    exact aRetB hC hT hF rfl (Or.inr rfl) rfl
  · have hf := aIfF hf hc6
    refine aRun_ok hC hT 2 (cf' := (27, [(0, .ref 1), (1, .ref 1008), (2, .int v2), (4, .int v4)], [.int v4, .ref 1008], LAY, S)) (by rfl) ?_
    obtain ⟨w7, ew8, hf⟩ := aBnE hf
    refine aCallW (b := 1008) (As := [.int v4]) (rest := []) hC hT rfl k_X9_is_116.1 _ _ k_X9_is_116.2 (by decide) (by rfl) (by rfl) (Nat.le_of_ble_eq_true rfl) (by decide) (J_J0_charAt_5068e_1008 C.2.2.1 C.1 N v4 S ew8) ?_
    refine aRun_ok hC hT 5 (cf' := (38, [(0, .ref 1), (1, .ref 1008), (2, .int v2), (4, .int v4)], [.int (v2 + v4), .ref 2, .int w7], LAY, S)) (by rfl) ?_
    obtain ⟨w9, ew10, hf⟩ := aLetE hf
    refine aCallS (As := [.ref 2, .int (v2 + v4)]) (rest := [.int w7]) hC hT rfl k_X9_is_40.1 _ k_X9_is_40.2 (by rfl) (Nat.le_of_ble_eq_true rfl) (by decide) (J_X6_at_2 C.2.2.1 C.1 (v2 + v4) S ew10) ?_
    refine aCmp_eq hC hT (tgt := 46) rfl (by decide) (fun hc11 => ?_) (fun hc11 => ?_)
    · have hf := aIfT hf hc11
      refine aRun_ok hC hT 2 (cf' := (15, [(4, .int (v4 + (1 : Int32))), (0, .ref 1), (1, .ref 1008), (2, .int v2)], [], LAY, S)) (by rfl) ?_
      refine aLocs [1, 2, 3, 0] (lv' := [(0, .ref 1), (1, .ref 1008), (2, .int v2), (4, .int (v4 + (1 : Int32)))]) rfl ?_
      exact hrec15 v2 (v4 + (1 : Int32)) hf
    · have hf := aIfF hf hc11
      refine aRun_ok hC hT 1 (cf' := (45, [(0, .ref 1), (1, .ref 1008), (2, .int v2), (4, .int v4)], [.int (0 : Int32)], LAY, S)) (by rfl) ?_
      have e9 := Option.some.inj hf; subst e9
      exact aRetB hC hT hF rfl (Or.inl rfl) rfl
def X9_is_1_1008_l15 (N : Nat) (S : aSt) : Nat → Int32 → Int32 → Option (Int32)
  | 0 => fun _ _ => none
  | n + 1 => X9_is_1_1008_b15 N S (X9_is_1_1008_l15 N S n)
theorem X9_is_1_1008_l15_ok {C : aC} {N : Nat} {S : aSt} (hC : aCx C M_X9_is) {r : Int32} (hF : aFin C (some (.int r)) LAY S 0 0) : ∀ (n : Nat) (v2 : Int32) (v4 : Int32), X9_is_1_1008_l15 N S n v2 v4 = (some r) → aX C M_X9_is 0 0 (15, [(0, .ref 1), (1, .ref 1008), (2, .int v2), (4, .int v4)], [], LAY, S)
  | 0, _, _,  h => nomatch (show (none : Option (Int32)) = some _ from h)
  | n + 1, v2, v4,  h => X9_is_1_1008_b15_ok hC hF (fun v2 v4 h => X9_is_1_1008_l15_ok hC hF n v2 v4 h) v2 v4 h
def X9_is_1_1008 (N : Nat) (a2 : Int32) (a3 : Int32) (S : aSt) : Option (Int32) := (aLet (J0_length_8abf5_1008) (fun w1 => (if (a3 - a2) = w1 then (X9_is_1_1008_l15 N S N a2 (0 : Int32)) else some ((0 : Int32)))))
set_option maxHeartbeats 4000000 in
set_option maxRecDepth 100000 in
theorem J_X9_is_1_1008 (l : Launch) (g : aWg) (N : Nat) (a2 : Int32) (a3 : Int32) (S : aSt) {r : Int32} (hf : X9_is_1_1008 N a2 a3 S = (some r)) : aJ l g yX9_is M_X9_is [.ref 1, .ref 1008, .int a2, .int a3] LAY S (some (.int r)) LAY S 0 0 := by
  refine aJ_of (by decide +kernel) rfl (Nat.le_of_ble_eq_true rfl) (fun h => nomatch h) ?_
  intro C hg hl hC hz hF
  subst hg; subst hl
  have hT := ok_X9_is
  unfold X9_is_1_1008 at hf
  show aX C M_X9_is 0 0 (0, [(0, .ref 1), (1, .ref 1008), (2, .int a2), (3, .int a3)], [], LAY, S)
  refine aRun_ok hC hT 4 (cf' := (4, [(0, .ref 1), (1, .ref 1008), (2, .int a2), (3, .int a3)], [.ref 1008, .int (a3 - a2)], LAY, S)) (by rfl) ?_
  obtain ⟨w1, ew2, hf⟩ := aLetE hf
  refine aCallW (b := 1008) (As := []) (rest := [.int (a3 - a2)]) hC hT rfl k_X9_is_111.1 _ _ k_X9_is_111.2 (by decide) (by rfl) (by rfl) (Nat.le_of_ble_eq_true rfl) (by decide) (J_J0_length_8abf5_1008 C.2.2.1 C.1  S ew2) ?_
  refine aCmp_eq hC hT (tgt := 12) rfl (by decide) (fun hc3 => ?_) (fun hc3 => ?_)
  · have hf := aIfT hf hc3
    refine aRun_ok hC hT 2 (cf' := (15, [(4, .int (0 : Int32)), (0, .ref 1), (1, .ref 1008), (2, .int a2), (3, .int a3)], [], LAY, S)) (by rfl) ?_
    refine aLocs [1, 2, 3, 0] (lv' := [(0, .ref 1), (1, .ref 1008), (2, .int a2), (4, .int (0 : Int32))]) rfl ?_
    exact X9_is_1_1008_l15_ok hC hF N a2 (0 : Int32) hf
  · have hf := aIfF hf hc3
    refine aRun_ok hC hT 1 (cf' := (11, [(0, .ref 1), (1, .ref 1008), (2, .int a2), (3, .int a3)], [.int (0 : Int32)], LAY, S)) (by rfl) ?_
    have e9 := Option.some.inj hf; subst e9
    exact aRetB hC hT hF rfl (Or.inl rfl) rfl
def J0_coder_7d493_1009 : Int32 := (0 : Int32)
set_option maxHeartbeats 4000000 in
set_option maxRecDepth 100000 in
theorem J_J0_coder_7d493_1009 (l : Launch) (g : aWg) (S : aSt) {r : Int32} (hf : J0_coder_7d493_1009 = r) : aJ l g yJ0_coder_7d493 M_J0_coder_7d493 [.ref 1009] LAY S (some (.int r)) LAY S 0 0 := by
  refine aJ_of (by decide +kernel) rfl (Nat.le_of_ble_eq_true rfl) (fun h => nomatch h) ?_
  intro C hg hl hC hz hF
  subst hg; subst hl
  have hT := ok_J0_coder_7d493
  unfold J0_coder_7d493_1009 at hf
  show aX C M_J0_coder_7d493 0 0 (0, [(0, .ref 1009)], [], LAY, S)
  refine aRun_ok hC hT 1 (cf' := (3, [(0, .ref 1009)], [.int (1 : Int32)], LAY, S)) (by rfl) ?_
  refine aIf_eq hC hT (tgt := 13) rfl (by decide) (fun h => absurd h (by decide)) (fun _ => ?_)
  refine aRun_ok hC hT 3 (cf' := (14, [(0, .ref 1009)], [.int (0 : Int32)], LAY, S)) (by rfl) ?_
  subst hf
  exact aRetZ hC hT hF rfl (by decide) rfl
def J0_length_8abf5_1009 : Int32 := ((4 : Int32) >>> ((0 : Int32) &&& 31))
set_option maxHeartbeats 4000000 in
set_option maxRecDepth 100000 in
theorem J_J0_length_8abf5_1009 (l : Launch) (g : aWg) (S : aSt) {r : Int32} (hf : J0_length_8abf5_1009 = r) : aJ l g yJ0_length_8abf5 M_J0_length_8abf5 [.ref 1009] LAY S (some (.int r)) LAY S 0 0 := by
  refine aJ_of (by decide +kernel) rfl (Nat.le_of_ble_eq_true rfl) (fun h => nomatch h) ?_
  intro C hg hl hC hz hF
  subst hg; subst hl
  have hT := ok_J0_length_8abf5
  unfold J0_length_8abf5_1009 at hf
  show aX C M_J0_length_8abf5 0 0 (0, [(0, .ref 1009)], [], LAY, S)
  refine aRun_ok hC hT 4 (cf' := (6, [(0, .ref 1009)], [.ref 1009, .int (4 : Int32)], LAY, S)) (by rfl) ?_
  refine aCallW (b := 1009) (As := []) (rest := [.int (4 : Int32)]) hC hT rfl k_J0_length_8abf5_335.1 _ _ k_J0_length_8abf5_335.2 (by decide) (by rfl) (by rfl) (Nat.le_of_ble_eq_true rfl) (by decide) (J_J0_coder_7d493_1009 C.2.2.1 C.1  S rfl) ?_
  refine aRun_ok hC hT 1 (cf' := (10, [(0, .ref 1009)], [.int ((4 : Int32) >>> ((0 : Int32) &&& 31))], LAY, S)) (by rfl) ?_
  subst hf
  exact aRetI hC hT hF rfl rfl
def J0_isLatin1_aae02_1009 : Int32 := (1 : Int32)
set_option maxHeartbeats 4000000 in
set_option maxRecDepth 100000 in
theorem J_J0_isLatin1_aae02_1009 (l : Launch) (g : aWg) (S : aSt) {r : Int32} (hf : J0_isLatin1_aae02_1009 = r) : aJ l g yJ0_isLatin1_aae02 M_J0_isLatin1_aae02 [.ref 1009] LAY S (some (.int r)) LAY S 0 0 := by
  refine aJ_of (by decide +kernel) rfl (Nat.le_of_ble_eq_true rfl) (fun h => nomatch h) ?_
  intro C hg hl hC hz hF
  subst hg; subst hl
  have hT := ok_J0_isLatin1_aae02
  unfold J0_isLatin1_aae02_1009 at hf
  show aX C M_J0_isLatin1_aae02 0 0 (0, [(0, .ref 1009)], [], LAY, S)
  refine aRun_ok hC hT 1 (cf' := (3, [(0, .ref 1009)], [.int (1 : Int32)], LAY, S)) (by rfl) ?_
  refine aIf_eq hC hT (tgt := 17) rfl (by decide) (fun h => absurd h (by decide)) (fun _ => ?_)
  refine aRun_ok hC hT 2 (cf' := (10, [(0, .ref 1009)], [.int (0 : Int32)], LAY, S)) (by rfl) ?_
  refine aIf_ne hC hT (tgt := 17) rfl (by decide) (fun h => absurd h (by decide)) (fun _ => ?_)
  refine aRun_ok hC hT 2 (cf' := (18, [(0, .ref 1009)], [.int (1 : Int32)], LAY, S)) (by rfl) ?_
  subst hf
  exact aRetB hC hT hF rfl (Or.inr rfl) rfl
def J1_charAt_3b067_1018 (N : Nat) (a1 : Int32) : Option (Int32) := (Option.bind (J0_checkIndex_df160 N a1 (4 : Int32)) (fun w1 => (if aIx a1 4 = true then (if narrow .char (.int ((((aByt.getD 7 []).getD a1.toNatClampNeg (0 : Int32)) &&& (255 : Int32)).toUInt32 % 65536).toInt32) = .int ((((aByt.getD 7 []).getD a1.toNatClampNeg (0 : Int32)) &&& (255 : Int32)).toUInt32 % 65536).toInt32 then some (((((aByt.getD 7 []).getD a1.toNatClampNeg (0 : Int32)) &&& (255 : Int32)).toUInt32 % 65536).toInt32) else none) else none)))
set_option maxHeartbeats 4000000 in
set_option maxRecDepth 100000 in
theorem J_J1_charAt_3b067_1018 (l : Launch) (g : aWg) (N : Nat) (a1 : Int32) (S : aSt) {r : Int32} (hf : J1_charAt_3b067_1018 N a1 = (some r)) : aJ l g yJ1_charAt_3b067 M_J1_charAt_3b067 [.ref 1018, .int a1] LAY S (some (.int r)) LAY S 0 0 := by
  refine aJ_of (by decide +kernel) rfl (Nat.le_of_ble_eq_true rfl) (fun h => nomatch h) ?_
  intro C hg hl hC hz hF
  subst hg; subst hl
  have hT := ok_J1_charAt_3b067
  unfold J1_charAt_3b067_1018 at hf
  show aX C M_J1_charAt_3b067 0 0 (0, [(0, .ref 1018), (1, .int a1)], [], LAY, S)
  refine aRun_ok hC hT 3 (cf' := (3, [(0, .ref 1018), (1, .int a1)], [.int (4 : Int32), .int a1], LAY, S)) (by rfl) ?_
  obtain ⟨w1, ew2, hf⟩ := aBnE hf
  refine aCallS (As := [.int a1, .int (4 : Int32)]) (rest := []) hC hT rfl k_J1_charAt_3b067_9.1 _ k_J1_charAt_3b067_9.2 (by rfl) (Nat.le_of_ble_eq_true rfl) (by decide) (J_J0_checkIndex_df160 C.2.2.1 C.1 N a1 (4 : Int32) S ew2) ?_
  refine aRun_ok hC hT 2 (cf' := (8, [(0, .ref 1018), (1, .int a1)], [.int a1, .ref 1018], LAY, S)) (by rfl) ?_
  obtain ⟨hin3, hf⟩ := aGdE hf
  refine aBald hC hT rfl (by decide) (by decide) hin3 ?_
  refine aRun_ok hC hT 3 (cf' := (14, [(0, .ref 1018), (1, .int a1)], [.int ((((aByt.getD 7 []).getD a1.toNatClampNeg (0 : Int32)) &&& (255 : Int32)).toUInt32 % 65536).toInt32], LAY, S)) (by rfl) ?_
  obtain ⟨hb4, hf⟩ := aGdE hf
  have e9 := Option.some.inj hf; subst e9
  exact aRetZ hC hT hF rfl hb4 rfl
def J0_charAt_5068e_1009 (N : Nat) (a1 : Int32) : Option (Int32) := (Option.bind (J1_charAt_3b067_1018 N a1) (fun w3 => (if narrow .char (.int w3) = .int w3 then some (w3) else none)))
set_option maxHeartbeats 4000000 in
set_option maxRecDepth 100000 in
theorem J_J0_charAt_5068e_1009 (l : Launch) (g : aWg) (N : Nat) (a1 : Int32) (S : aSt) {r : Int32} (hf : J0_charAt_5068e_1009 N a1 = (some r)) : aJ l g yJ0_charAt_5068e M_J0_charAt_5068e [.ref 1009, .int a1] LAY S (some (.int r)) LAY S 0 0 := by
  refine aJ_of (by decide +kernel) rfl (Nat.le_of_ble_eq_true rfl) (fun h => nomatch h) ?_
  intro C hg hl hC hz hF
  subst hg; subst hl
  have hT := ok_J0_charAt_5068e
  unfold J0_charAt_5068e_1009 at hf
  show aX C M_J0_charAt_5068e 0 0 (0, [(0, .ref 1009), (1, .int a1)], [], LAY, S)
  refine aRun_ok hC hT 1 (cf' := (1, [(0, .ref 1009), (1, .int a1)], [.ref 1009], LAY, S)) (by rfl) ?_
  refine aCallW (b := 1009) (As := []) (rest := []) hC hT rfl k_J0_charAt_5068e_492.1 _ _ k_J0_charAt_5068e_492.2 (by decide) (by rfl) (by rfl) (Nat.le_of_ble_eq_true rfl) (by decide) (J_J0_isLatin1_aae02_1009 C.2.2.1 C.1  S rfl) ?_
  refine aIf_eq hC hT (tgt := 16) rfl (by decide) (fun h => absurd h (by decide)) (fun _ => ?_)
  refine aRun_ok hC hT 3 (cf' := (12, [(0, .ref 1009), (1, .int a1)], [.int a1, .ref 1018], LAY, S)) (by rfl) ?_
  obtain ⟨w3, ew4, hf⟩ := aBnE hf
  refine aCallS (As := [.ref 1018, .int a1]) (rest := []) hC hT rfl k_J0_charAt_5068e_495.1 _ k_J0_charAt_5068e_495.2 (by rfl) (Nat.le_of_ble_eq_true rfl) (by decide) (J_J1_charAt_3b067_1018 C.2.2.1 C.1 N a1 S ew4) ?_
  obtain ⟨hb5, hf⟩ := aGdE hf
  have e9 := Option.some.inj hf; subst e9
  exact aRetZ hC hT hF rfl hb5 rfl
def X9_is_1_1009_b15 (N : Nat) (S : aSt) (rec15 : Int32 → Int32 → Option (Int32)) (v2 : Int32) (v4 : Int32) : Option (Int32) := (aLet (J0_length_8abf5_1009) (fun w4 => (if w4 ≤ v4 then some ((1 : Int32)) else (Option.bind (J0_charAt_5068e_1009 N v4) (fun w7 => (aLet (X6_at_2 (v2 + v4) S) (fun w9 => (if w7 = w9 then (rec15 v2 (v4 + (1 : Int32))) else some ((0 : Int32))))))))))
set_option maxHeartbeats 4000000 in
set_option maxRecDepth 100000 in
theorem X9_is_1_1009_b15_ok {C : aC} {N : Nat} {S : aSt} {rec15 : Int32 → Int32 → Option (Int32)} (hC : aCx C M_X9_is) {r : Int32} (hF : aFin C (some (.int r)) LAY S 0 0) (hrec15 : ∀ (v2 : Int32) (v4 : Int32), rec15 v2 v4 = (some r) → aX C M_X9_is 0 0 (15, [(0, .ref 1), (1, .ref 1009), (2, .int v2), (4, .int v4)], [], LAY, S)) (v2 : Int32) (v4 : Int32) (hf : X9_is_1_1009_b15 N S rec15 v2 v4 = (some r)) : aX C M_X9_is 0 0 (15, [(0, .ref 1), (1, .ref 1009), (2, .int v2), (4, .int v4)], [], LAY, S) := by
  have hT := ok_X9_is
  unfold X9_is_1_1009_b15 at hf
  refine aRun_ok hC hT 2 (cf' := (18, [(0, .ref 1), (1, .ref 1009), (2, .int v2), (4, .int v4)], [.ref 1009, .int v4], LAY, S)) (by rfl) ?_
  obtain ⟨w4, ew5, hf⟩ := aLetE hf
  refine aCallW (b := 1009) (As := []) (rest := [.int v4]) hC hT rfl k_X9_is_111.1 _ _ k_X9_is_111.2 (by decide) (by rfl) (by rfl) (Nat.le_of_ble_eq_true rfl) (by decide) (J_J0_length_8abf5_1009 C.2.2.1 C.1  S ew5) ?_
  refine aCmp_ge hC hT (tgt := 52) rfl (by decide) (fun hc6 => ?_) (fun hc6 => ?_)
  · have hf := aIfT hf hc6
    refine aRun_ok hC hT 1 (cf' := (53, [(0, .ref 1), (1, .ref 1009), (2, .int v2), (4, .int v4)], [.int (1 : Int32)], LAY, S)) (by rfl) ?_
    have e9 := Option.some.inj hf; subst e9
    exact aRetB hC hT hF rfl (Or.inr rfl) rfl
  · have hf := aIfF hf hc6
    refine aRun_ok hC hT 2 (cf' := (27, [(0, .ref 1), (1, .ref 1009), (2, .int v2), (4, .int v4)], [.int v4, .ref 1009], LAY, S)) (by rfl) ?_
    obtain ⟨w7, ew8, hf⟩ := aBnE hf
    refine aCallW (b := 1009) (As := [.int v4]) (rest := []) hC hT rfl k_X9_is_116.1 _ _ k_X9_is_116.2 (by decide) (by rfl) (by rfl) (Nat.le_of_ble_eq_true rfl) (by decide) (J_J0_charAt_5068e_1009 C.2.2.1 C.1 N v4 S ew8) ?_
    refine aRun_ok hC hT 5 (cf' := (38, [(0, .ref 1), (1, .ref 1009), (2, .int v2), (4, .int v4)], [.int (v2 + v4), .ref 2, .int w7], LAY, S)) (by rfl) ?_
    obtain ⟨w9, ew10, hf⟩ := aLetE hf
    refine aCallS (As := [.ref 2, .int (v2 + v4)]) (rest := [.int w7]) hC hT rfl k_X9_is_40.1 _ k_X9_is_40.2 (by rfl) (Nat.le_of_ble_eq_true rfl) (by decide) (J_X6_at_2 C.2.2.1 C.1 (v2 + v4) S ew10) ?_
    refine aCmp_eq hC hT (tgt := 46) rfl (by decide) (fun hc11 => ?_) (fun hc11 => ?_)
    · have hf := aIfT hf hc11
      refine aRun_ok hC hT 2 (cf' := (15, [(4, .int (v4 + (1 : Int32))), (0, .ref 1), (1, .ref 1009), (2, .int v2)], [], LAY, S)) (by rfl) ?_
      refine aLocs [1, 2, 3, 0] (lv' := [(0, .ref 1), (1, .ref 1009), (2, .int v2), (4, .int (v4 + (1 : Int32)))]) rfl ?_
      exact hrec15 v2 (v4 + (1 : Int32)) hf
    · have hf := aIfF hf hc11
      refine aRun_ok hC hT 1 (cf' := (45, [(0, .ref 1), (1, .ref 1009), (2, .int v2), (4, .int v4)], [.int (0 : Int32)], LAY, S)) (by rfl) ?_
      have e9 := Option.some.inj hf; subst e9
      exact aRetB hC hT hF rfl (Or.inl rfl) rfl
def X9_is_1_1009_l15 (N : Nat) (S : aSt) : Nat → Int32 → Int32 → Option (Int32)
  | 0 => fun _ _ => none
  | n + 1 => X9_is_1_1009_b15 N S (X9_is_1_1009_l15 N S n)
theorem X9_is_1_1009_l15_ok {C : aC} {N : Nat} {S : aSt} (hC : aCx C M_X9_is) {r : Int32} (hF : aFin C (some (.int r)) LAY S 0 0) : ∀ (n : Nat) (v2 : Int32) (v4 : Int32), X9_is_1_1009_l15 N S n v2 v4 = (some r) → aX C M_X9_is 0 0 (15, [(0, .ref 1), (1, .ref 1009), (2, .int v2), (4, .int v4)], [], LAY, S)
  | 0, _, _,  h => nomatch (show (none : Option (Int32)) = some _ from h)
  | n + 1, v2, v4,  h => X9_is_1_1009_b15_ok hC hF (fun v2 v4 h => X9_is_1_1009_l15_ok hC hF n v2 v4 h) v2 v4 h
def X9_is_1_1009 (N : Nat) (a2 : Int32) (a3 : Int32) (S : aSt) : Option (Int32) := (aLet (J0_length_8abf5_1009) (fun w1 => (if (a3 - a2) = w1 then (X9_is_1_1009_l15 N S N a2 (0 : Int32)) else some ((0 : Int32)))))
set_option maxHeartbeats 4000000 in
set_option maxRecDepth 100000 in
theorem J_X9_is_1_1009 (l : Launch) (g : aWg) (N : Nat) (a2 : Int32) (a3 : Int32) (S : aSt) {r : Int32} (hf : X9_is_1_1009 N a2 a3 S = (some r)) : aJ l g yX9_is M_X9_is [.ref 1, .ref 1009, .int a2, .int a3] LAY S (some (.int r)) LAY S 0 0 := by
  refine aJ_of (by decide +kernel) rfl (Nat.le_of_ble_eq_true rfl) (fun h => nomatch h) ?_
  intro C hg hl hC hz hF
  subst hg; subst hl
  have hT := ok_X9_is
  unfold X9_is_1_1009 at hf
  show aX C M_X9_is 0 0 (0, [(0, .ref 1), (1, .ref 1009), (2, .int a2), (3, .int a3)], [], LAY, S)
  refine aRun_ok hC hT 4 (cf' := (4, [(0, .ref 1), (1, .ref 1009), (2, .int a2), (3, .int a3)], [.ref 1009, .int (a3 - a2)], LAY, S)) (by rfl) ?_
  obtain ⟨w1, ew2, hf⟩ := aLetE hf
  refine aCallW (b := 1009) (As := []) (rest := [.int (a3 - a2)]) hC hT rfl k_X9_is_111.1 _ _ k_X9_is_111.2 (by decide) (by rfl) (by rfl) (Nat.le_of_ble_eq_true rfl) (by decide) (J_J0_length_8abf5_1009 C.2.2.1 C.1  S ew2) ?_
  refine aCmp_eq hC hT (tgt := 12) rfl (by decide) (fun hc3 => ?_) (fun hc3 => ?_)
  · have hf := aIfT hf hc3
    refine aRun_ok hC hT 2 (cf' := (15, [(4, .int (0 : Int32)), (0, .ref 1), (1, .ref 1009), (2, .int a2), (3, .int a3)], [], LAY, S)) (by rfl) ?_
    refine aLocs [1, 2, 3, 0] (lv' := [(0, .ref 1), (1, .ref 1009), (2, .int a2), (4, .int (0 : Int32))]) rfl ?_
    exact X9_is_1_1009_l15_ok hC hF N a2 (0 : Int32) hf
  · have hf := aIfF hf hc3
    refine aRun_ok hC hT 1 (cf' := (11, [(0, .ref 1), (1, .ref 1009), (2, .int a2), (3, .int a3)], [.int (0 : Int32)], LAY, S)) (by rfl) ?_
    have e9 := Option.some.inj hf; subst e9
    exact aRetB hC hT hF rfl (Or.inl rfl) rfl
def J0_coder_7d493_1010 : Int32 := (0 : Int32)
set_option maxHeartbeats 4000000 in
set_option maxRecDepth 100000 in
theorem J_J0_coder_7d493_1010 (l : Launch) (g : aWg) (S : aSt) {r : Int32} (hf : J0_coder_7d493_1010 = r) : aJ l g yJ0_coder_7d493 M_J0_coder_7d493 [.ref 1010] LAY S (some (.int r)) LAY S 0 0 := by
  refine aJ_of (by decide +kernel) rfl (Nat.le_of_ble_eq_true rfl) (fun h => nomatch h) ?_
  intro C hg hl hC hz hF
  subst hg; subst hl
  have hT := ok_J0_coder_7d493
  unfold J0_coder_7d493_1010 at hf
  show aX C M_J0_coder_7d493 0 0 (0, [(0, .ref 1010)], [], LAY, S)
  refine aRun_ok hC hT 1 (cf' := (3, [(0, .ref 1010)], [.int (1 : Int32)], LAY, S)) (by rfl) ?_
  refine aIf_eq hC hT (tgt := 13) rfl (by decide) (fun h => absurd h (by decide)) (fun _ => ?_)
  refine aRun_ok hC hT 3 (cf' := (14, [(0, .ref 1010)], [.int (0 : Int32)], LAY, S)) (by rfl) ?_
  subst hf
  exact aRetZ hC hT hF rfl (by decide) rfl
def J0_length_8abf5_1010 : Int32 := ((4 : Int32) >>> ((0 : Int32) &&& 31))
set_option maxHeartbeats 4000000 in
set_option maxRecDepth 100000 in
theorem J_J0_length_8abf5_1010 (l : Launch) (g : aWg) (S : aSt) {r : Int32} (hf : J0_length_8abf5_1010 = r) : aJ l g yJ0_length_8abf5 M_J0_length_8abf5 [.ref 1010] LAY S (some (.int r)) LAY S 0 0 := by
  refine aJ_of (by decide +kernel) rfl (Nat.le_of_ble_eq_true rfl) (fun h => nomatch h) ?_
  intro C hg hl hC hz hF
  subst hg; subst hl
  have hT := ok_J0_length_8abf5
  unfold J0_length_8abf5_1010 at hf
  show aX C M_J0_length_8abf5 0 0 (0, [(0, .ref 1010)], [], LAY, S)
  refine aRun_ok hC hT 4 (cf' := (6, [(0, .ref 1010)], [.ref 1010, .int (4 : Int32)], LAY, S)) (by rfl) ?_
  refine aCallW (b := 1010) (As := []) (rest := [.int (4 : Int32)]) hC hT rfl k_J0_length_8abf5_335.1 _ _ k_J0_length_8abf5_335.2 (by decide) (by rfl) (by rfl) (Nat.le_of_ble_eq_true rfl) (by decide) (J_J0_coder_7d493_1010 C.2.2.1 C.1  S rfl) ?_
  refine aRun_ok hC hT 1 (cf' := (10, [(0, .ref 1010)], [.int ((4 : Int32) >>> ((0 : Int32) &&& 31))], LAY, S)) (by rfl) ?_
  subst hf
  exact aRetI hC hT hF rfl rfl
def J0_isLatin1_aae02_1010 : Int32 := (1 : Int32)
set_option maxHeartbeats 4000000 in
set_option maxRecDepth 100000 in
theorem J_J0_isLatin1_aae02_1010 (l : Launch) (g : aWg) (S : aSt) {r : Int32} (hf : J0_isLatin1_aae02_1010 = r) : aJ l g yJ0_isLatin1_aae02 M_J0_isLatin1_aae02 [.ref 1010] LAY S (some (.int r)) LAY S 0 0 := by
  refine aJ_of (by decide +kernel) rfl (Nat.le_of_ble_eq_true rfl) (fun h => nomatch h) ?_
  intro C hg hl hC hz hF
  subst hg; subst hl
  have hT := ok_J0_isLatin1_aae02
  unfold J0_isLatin1_aae02_1010 at hf
  show aX C M_J0_isLatin1_aae02 0 0 (0, [(0, .ref 1010)], [], LAY, S)
  refine aRun_ok hC hT 1 (cf' := (3, [(0, .ref 1010)], [.int (1 : Int32)], LAY, S)) (by rfl) ?_
  refine aIf_eq hC hT (tgt := 17) rfl (by decide) (fun h => absurd h (by decide)) (fun _ => ?_)
  refine aRun_ok hC hT 2 (cf' := (10, [(0, .ref 1010)], [.int (0 : Int32)], LAY, S)) (by rfl) ?_
  refine aIf_ne hC hT (tgt := 17) rfl (by decide) (fun h => absurd h (by decide)) (fun _ => ?_)
  refine aRun_ok hC hT 2 (cf' := (18, [(0, .ref 1010)], [.int (1 : Int32)], LAY, S)) (by rfl) ?_
  subst hf
  exact aRetB hC hT hF rfl (Or.inr rfl) rfl
def J1_charAt_3b067_1019 (N : Nat) (a1 : Int32) : Option (Int32) := (Option.bind (J0_checkIndex_df160 N a1 (4 : Int32)) (fun w1 => (if aIx a1 4 = true then (if narrow .char (.int ((((aByt.getD 8 []).getD a1.toNatClampNeg (0 : Int32)) &&& (255 : Int32)).toUInt32 % 65536).toInt32) = .int ((((aByt.getD 8 []).getD a1.toNatClampNeg (0 : Int32)) &&& (255 : Int32)).toUInt32 % 65536).toInt32 then some (((((aByt.getD 8 []).getD a1.toNatClampNeg (0 : Int32)) &&& (255 : Int32)).toUInt32 % 65536).toInt32) else none) else none)))
set_option maxHeartbeats 4000000 in
set_option maxRecDepth 100000 in
theorem J_J1_charAt_3b067_1019 (l : Launch) (g : aWg) (N : Nat) (a1 : Int32) (S : aSt) {r : Int32} (hf : J1_charAt_3b067_1019 N a1 = (some r)) : aJ l g yJ1_charAt_3b067 M_J1_charAt_3b067 [.ref 1019, .int a1] LAY S (some (.int r)) LAY S 0 0 := by
  refine aJ_of (by decide +kernel) rfl (Nat.le_of_ble_eq_true rfl) (fun h => nomatch h) ?_
  intro C hg hl hC hz hF
  subst hg; subst hl
  have hT := ok_J1_charAt_3b067
  unfold J1_charAt_3b067_1019 at hf
  show aX C M_J1_charAt_3b067 0 0 (0, [(0, .ref 1019), (1, .int a1)], [], LAY, S)
  refine aRun_ok hC hT 3 (cf' := (3, [(0, .ref 1019), (1, .int a1)], [.int (4 : Int32), .int a1], LAY, S)) (by rfl) ?_
  obtain ⟨w1, ew2, hf⟩ := aBnE hf
  refine aCallS (As := [.int a1, .int (4 : Int32)]) (rest := []) hC hT rfl k_J1_charAt_3b067_9.1 _ k_J1_charAt_3b067_9.2 (by rfl) (Nat.le_of_ble_eq_true rfl) (by decide) (J_J0_checkIndex_df160 C.2.2.1 C.1 N a1 (4 : Int32) S ew2) ?_
  refine aRun_ok hC hT 2 (cf' := (8, [(0, .ref 1019), (1, .int a1)], [.int a1, .ref 1019], LAY, S)) (by rfl) ?_
  obtain ⟨hin3, hf⟩ := aGdE hf
  refine aBald hC hT rfl (by decide) (by decide) hin3 ?_
  refine aRun_ok hC hT 3 (cf' := (14, [(0, .ref 1019), (1, .int a1)], [.int ((((aByt.getD 8 []).getD a1.toNatClampNeg (0 : Int32)) &&& (255 : Int32)).toUInt32 % 65536).toInt32], LAY, S)) (by rfl) ?_
  obtain ⟨hb4, hf⟩ := aGdE hf
  have e9 := Option.some.inj hf; subst e9
  exact aRetZ hC hT hF rfl hb4 rfl
def J0_charAt_5068e_1010 (N : Nat) (a1 : Int32) : Option (Int32) := (Option.bind (J1_charAt_3b067_1019 N a1) (fun w3 => (if narrow .char (.int w3) = .int w3 then some (w3) else none)))
set_option maxHeartbeats 4000000 in
set_option maxRecDepth 100000 in
theorem J_J0_charAt_5068e_1010 (l : Launch) (g : aWg) (N : Nat) (a1 : Int32) (S : aSt) {r : Int32} (hf : J0_charAt_5068e_1010 N a1 = (some r)) : aJ l g yJ0_charAt_5068e M_J0_charAt_5068e [.ref 1010, .int a1] LAY S (some (.int r)) LAY S 0 0 := by
  refine aJ_of (by decide +kernel) rfl (Nat.le_of_ble_eq_true rfl) (fun h => nomatch h) ?_
  intro C hg hl hC hz hF
  subst hg; subst hl
  have hT := ok_J0_charAt_5068e
  unfold J0_charAt_5068e_1010 at hf
  show aX C M_J0_charAt_5068e 0 0 (0, [(0, .ref 1010), (1, .int a1)], [], LAY, S)
  refine aRun_ok hC hT 1 (cf' := (1, [(0, .ref 1010), (1, .int a1)], [.ref 1010], LAY, S)) (by rfl) ?_
  refine aCallW (b := 1010) (As := []) (rest := []) hC hT rfl k_J0_charAt_5068e_492.1 _ _ k_J0_charAt_5068e_492.2 (by decide) (by rfl) (by rfl) (Nat.le_of_ble_eq_true rfl) (by decide) (J_J0_isLatin1_aae02_1010 C.2.2.1 C.1  S rfl) ?_
  refine aIf_eq hC hT (tgt := 16) rfl (by decide) (fun h => absurd h (by decide)) (fun _ => ?_)
  refine aRun_ok hC hT 3 (cf' := (12, [(0, .ref 1010), (1, .int a1)], [.int a1, .ref 1019], LAY, S)) (by rfl) ?_
  obtain ⟨w3, ew4, hf⟩ := aBnE hf
  refine aCallS (As := [.ref 1019, .int a1]) (rest := []) hC hT rfl k_J0_charAt_5068e_495.1 _ k_J0_charAt_5068e_495.2 (by rfl) (Nat.le_of_ble_eq_true rfl) (by decide) (J_J1_charAt_3b067_1019 C.2.2.1 C.1 N a1 S ew4) ?_
  obtain ⟨hb5, hf⟩ := aGdE hf
  have e9 := Option.some.inj hf; subst e9
  exact aRetZ hC hT hF rfl hb5 rfl
def X9_is_1_1010_b15 (N : Nat) (S : aSt) (rec15 : Int32 → Int32 → Option (Int32)) (v2 : Int32) (v4 : Int32) : Option (Int32) := (aLet (J0_length_8abf5_1010) (fun w4 => (if w4 ≤ v4 then some ((1 : Int32)) else (Option.bind (J0_charAt_5068e_1010 N v4) (fun w7 => (aLet (X6_at_2 (v2 + v4) S) (fun w9 => (if w7 = w9 then (rec15 v2 (v4 + (1 : Int32))) else some ((0 : Int32))))))))))
set_option maxHeartbeats 4000000 in
set_option maxRecDepth 100000 in
theorem X9_is_1_1010_b15_ok {C : aC} {N : Nat} {S : aSt} {rec15 : Int32 → Int32 → Option (Int32)} (hC : aCx C M_X9_is) {r : Int32} (hF : aFin C (some (.int r)) LAY S 0 0) (hrec15 : ∀ (v2 : Int32) (v4 : Int32), rec15 v2 v4 = (some r) → aX C M_X9_is 0 0 (15, [(0, .ref 1), (1, .ref 1010), (2, .int v2), (4, .int v4)], [], LAY, S)) (v2 : Int32) (v4 : Int32) (hf : X9_is_1_1010_b15 N S rec15 v2 v4 = (some r)) : aX C M_X9_is 0 0 (15, [(0, .ref 1), (1, .ref 1010), (2, .int v2), (4, .int v4)], [], LAY, S) := by
  have hT := ok_X9_is
  unfold X9_is_1_1010_b15 at hf
  refine aRun_ok hC hT 2 (cf' := (18, [(0, .ref 1), (1, .ref 1010), (2, .int v2), (4, .int v4)], [.ref 1010, .int v4], LAY, S)) (by rfl) ?_
  obtain ⟨w4, ew5, hf⟩ := aLetE hf
  refine aCallW (b := 1010) (As := []) (rest := [.int v4]) hC hT rfl k_X9_is_111.1 _ _ k_X9_is_111.2 (by decide) (by rfl) (by rfl) (Nat.le_of_ble_eq_true rfl) (by decide) (J_J0_length_8abf5_1010 C.2.2.1 C.1  S ew5) ?_
  refine aCmp_ge hC hT (tgt := 52) rfl (by decide) (fun hc6 => ?_) (fun hc6 => ?_)
  · have hf := aIfT hf hc6
    refine aRun_ok hC hT 1 (cf' := (53, [(0, .ref 1), (1, .ref 1010), (2, .int v2), (4, .int v4)], [.int (1 : Int32)], LAY, S)) (by rfl) ?_
    have e9 := Option.some.inj hf; subst e9
    exact aRetB hC hT hF rfl (Or.inr rfl) rfl
  · have hf := aIfF hf hc6
    refine aRun_ok hC hT 2 (cf' := (27, [(0, .ref 1), (1, .ref 1010), (2, .int v2), (4, .int v4)], [.int v4, .ref 1010], LAY, S)) (by rfl) ?_
    obtain ⟨w7, ew8, hf⟩ := aBnE hf
    refine aCallW (b := 1010) (As := [.int v4]) (rest := []) hC hT rfl k_X9_is_116.1 _ _ k_X9_is_116.2 (by decide) (by rfl) (by rfl) (Nat.le_of_ble_eq_true rfl) (by decide) (J_J0_charAt_5068e_1010 C.2.2.1 C.1 N v4 S ew8) ?_
    refine aRun_ok hC hT 5 (cf' := (38, [(0, .ref 1), (1, .ref 1010), (2, .int v2), (4, .int v4)], [.int (v2 + v4), .ref 2, .int w7], LAY, S)) (by rfl) ?_
    obtain ⟨w9, ew10, hf⟩ := aLetE hf
    refine aCallS (As := [.ref 2, .int (v2 + v4)]) (rest := [.int w7]) hC hT rfl k_X9_is_40.1 _ k_X9_is_40.2 (by rfl) (Nat.le_of_ble_eq_true rfl) (by decide) (J_X6_at_2 C.2.2.1 C.1 (v2 + v4) S ew10) ?_
    refine aCmp_eq hC hT (tgt := 46) rfl (by decide) (fun hc11 => ?_) (fun hc11 => ?_)
    · have hf := aIfT hf hc11
      refine aRun_ok hC hT 2 (cf' := (15, [(4, .int (v4 + (1 : Int32))), (0, .ref 1), (1, .ref 1010), (2, .int v2)], [], LAY, S)) (by rfl) ?_
      refine aLocs [1, 2, 3, 0] (lv' := [(0, .ref 1), (1, .ref 1010), (2, .int v2), (4, .int (v4 + (1 : Int32)))]) rfl ?_
      exact hrec15 v2 (v4 + (1 : Int32)) hf
    · have hf := aIfF hf hc11
      refine aRun_ok hC hT 1 (cf' := (45, [(0, .ref 1), (1, .ref 1010), (2, .int v2), (4, .int v4)], [.int (0 : Int32)], LAY, S)) (by rfl) ?_
      have e9 := Option.some.inj hf; subst e9
      exact aRetB hC hT hF rfl (Or.inl rfl) rfl
def X9_is_1_1010_l15 (N : Nat) (S : aSt) : Nat → Int32 → Int32 → Option (Int32)
  | 0 => fun _ _ => none
  | n + 1 => X9_is_1_1010_b15 N S (X9_is_1_1010_l15 N S n)
theorem X9_is_1_1010_l15_ok {C : aC} {N : Nat} {S : aSt} (hC : aCx C M_X9_is) {r : Int32} (hF : aFin C (some (.int r)) LAY S 0 0) : ∀ (n : Nat) (v2 : Int32) (v4 : Int32), X9_is_1_1010_l15 N S n v2 v4 = (some r) → aX C M_X9_is 0 0 (15, [(0, .ref 1), (1, .ref 1010), (2, .int v2), (4, .int v4)], [], LAY, S)
  | 0, _, _,  h => nomatch (show (none : Option (Int32)) = some _ from h)
  | n + 1, v2, v4,  h => X9_is_1_1010_b15_ok hC hF (fun v2 v4 h => X9_is_1_1010_l15_ok hC hF n v2 v4 h) v2 v4 h
def X9_is_1_1010 (N : Nat) (a2 : Int32) (a3 : Int32) (S : aSt) : Option (Int32) := (aLet (J0_length_8abf5_1010) (fun w1 => (if (a3 - a2) = w1 then (X9_is_1_1010_l15 N S N a2 (0 : Int32)) else some ((0 : Int32)))))
set_option maxHeartbeats 4000000 in
set_option maxRecDepth 100000 in
theorem J_X9_is_1_1010 (l : Launch) (g : aWg) (N : Nat) (a2 : Int32) (a3 : Int32) (S : aSt) {r : Int32} (hf : X9_is_1_1010 N a2 a3 S = (some r)) : aJ l g yX9_is M_X9_is [.ref 1, .ref 1010, .int a2, .int a3] LAY S (some (.int r)) LAY S 0 0 := by
  refine aJ_of (by decide +kernel) rfl (Nat.le_of_ble_eq_true rfl) (fun h => nomatch h) ?_
  intro C hg hl hC hz hF
  subst hg; subst hl
  have hT := ok_X9_is
  unfold X9_is_1_1010 at hf
  show aX C M_X9_is 0 0 (0, [(0, .ref 1), (1, .ref 1010), (2, .int a2), (3, .int a3)], [], LAY, S)
  refine aRun_ok hC hT 4 (cf' := (4, [(0, .ref 1), (1, .ref 1010), (2, .int a2), (3, .int a3)], [.ref 1010, .int (a3 - a2)], LAY, S)) (by rfl) ?_
  obtain ⟨w1, ew2, hf⟩ := aLetE hf
  refine aCallW (b := 1010) (As := []) (rest := [.int (a3 - a2)]) hC hT rfl k_X9_is_111.1 _ _ k_X9_is_111.2 (by decide) (by rfl) (by rfl) (Nat.le_of_ble_eq_true rfl) (by decide) (J_J0_length_8abf5_1010 C.2.2.1 C.1  S ew2) ?_
  refine aCmp_eq hC hT (tgt := 12) rfl (by decide) (fun hc3 => ?_) (fun hc3 => ?_)
  · have hf := aIfT hf hc3
    refine aRun_ok hC hT 2 (cf' := (15, [(4, .int (0 : Int32)), (0, .ref 1), (1, .ref 1010), (2, .int a2), (3, .int a3)], [], LAY, S)) (by rfl) ?_
    refine aLocs [1, 2, 3, 0] (lv' := [(0, .ref 1), (1, .ref 1010), (2, .int a2), (4, .int (0 : Int32))]) rfl ?_
    exact X9_is_1_1010_l15_ok hC hF N a2 (0 : Int32) hf
  · have hf := aIfF hf hc3
    refine aRun_ok hC hT 1 (cf' := (11, [(0, .ref 1), (1, .ref 1010), (2, .int a2), (3, .int a3)], [.int (0 : Int32)], LAY, S)) (by rfl) ?_
    have e9 := Option.some.inj hf; subst e9
    exact aRetB hC hT hF rfl (Or.inl rfl) rfl
def X9_wordOf_1 (N : Nat) (a1 : Int32) (a2 : Int32) (S : aSt) : Option (Int32) := (Option.bind (X9_is_1_1002 N a1 a2 S) (fun w1 => (if w1 = (0 : Int32) then (Option.bind (X9_is_1_1003 N a1 a2 S) (fun w4 => (if w4 = (0 : Int32) then (Option.bind (X9_is_1_1004 N a1 a2 S) (fun w7 => (if w7 = (0 : Int32) then (Option.bind (X9_is_1_1005 N a1 a2 S) (fun w10 => (if w10 = (0 : Int32) then (Option.bind (X9_is_1_1006 N a1 a2 S) (fun w13 => (if w13 = (0 : Int32) then (Option.bind (X9_is_1_1007 N a1 a2 S) (fun w16 => (if w16 = (0 : Int32) then (Option.bind (X9_is_1_1008 N a1 a2 S) (fun w19 => (if w19 = (0 : Int32) then (Option.bind (X9_is_1_1009 N a1 a2 S) (fun w22 => (if w22 = (0 : Int32) then (Option.bind (X9_is_1_1010 N a1 a2 S) (fun w25 => (if w25 = (0 : Int32) then some ((3 : Int32)) else some ((18 : Int32))))) else some ((17 : Int32))))) else some ((16 : Int32))))) else some ((15 : Int32))))) else some ((14 : Int32))))) else some ((13 : Int32))))) else some ((12 : Int32))))) else some ((11 : Int32))))) else some ((10 : Int32)))))
set_option maxHeartbeats 4000000 in
set_option maxRecDepth 100000 in
theorem J_X9_wordOf_1 (l : Launch) (g : aWg) (N : Nat) (a1 : Int32) (a2 : Int32) (S : aSt) {r : Int32} (hf : X9_wordOf_1 N a1 a2 S = (some r)) : aJ l g yX9_wordOf M_X9_wordOf [.ref 1, .int a1, .int a2] LAY S (some (.int r)) LAY S 0 0 := by
  refine aJ_of (by decide +kernel) rfl (Nat.le_of_ble_eq_true rfl) (fun h => nomatch h) ?_
  intro C hg hl hC hz hF
  subst hg; subst hl
  have hT := ok_X9_wordOf
  unfold X9_wordOf_1 at hf
  show aX C M_X9_wordOf 0 0 (0, [(0, .ref 1), (1, .int a1), (2, .int a2)], [], LAY, S)
  refine aRun_ok hC hT 4 (cf' := (5, [(0, .ref 1), (1, .int a1), (2, .int a2)], [.int a2, .int a1, .ref 1002, .ref 1], LAY, S)) (by rfl) ?_
  obtain ⟨w1, ew2, hf⟩ := aBnE hf
  refine aCallV (b := 1) (As := [.ref 1002, .int a1, .int a2]) (rest := []) hC hT rfl k_X9_wordOf_91.1 _ _ k_X9_wordOf_91.2 (by decide) (by rfl) (by rfl) (by rfl) (Nat.le_of_ble_eq_true rfl) (by decide) (J_X9_is_1_1002 C.2.2.1 C.1 N a1 a2 S ew2) ?_
  refine aIf_eq hC hT (tgt := 14) rfl (by decide) (fun hc3 => ?_) (fun hc3 => ?_)
  · have hf := aIfT hf hc3
    refine aRun_ok hC hT 4 (cf' := (19, [(0, .ref 1), (1, .int a1), (2, .int a2)], [.int a2, .int a1, .ref 1003, .ref 1], LAY, S)) (by rfl) ?_
    obtain ⟨w4, ew5, hf⟩ := aBnE hf
    refine aCallV (b := 1) (As := [.ref 1003, .int a1, .int a2]) (rest := []) hC hT rfl k_X9_wordOf_91.1 _ _ k_X9_wordOf_91.2 (by decide) (by rfl) (by rfl) (by rfl) (Nat.le_of_ble_eq_true rfl) (by decide) (J_X9_is_1_1003 C.2.2.1 C.1 N a1 a2 S ew5) ?_
    refine aIf_eq hC hT (tgt := 28) rfl (by decide) (fun hc6 => ?_) (fun hc6 => ?_)
    · have hf := aIfT hf hc6
      refine aRun_ok hC hT 4 (cf' := (33, [(0, .ref 1), (1, .int a1), (2, .int a2)], [.int a2, .int a1, .ref 1004, .ref 1], LAY, S)) (by rfl) ?_
      obtain ⟨w7, ew8, hf⟩ := aBnE hf
      refine aCallV (b := 1) (As := [.ref 1004, .int a1, .int a2]) (rest := []) hC hT rfl k_X9_wordOf_91.1 _ _ k_X9_wordOf_91.2 (by decide) (by rfl) (by rfl) (by rfl) (Nat.le_of_ble_eq_true rfl) (by decide) (J_X9_is_1_1004 C.2.2.1 C.1 N a1 a2 S ew8) ?_
      refine aIf_eq hC hT (tgt := 42) rfl (by decide) (fun hc9 => ?_) (fun hc9 => ?_)
      · have hf := aIfT hf hc9
        refine aRun_ok hC hT 4 (cf' := (47, [(0, .ref 1), (1, .int a1), (2, .int a2)], [.int a2, .int a1, .ref 1005, .ref 1], LAY, S)) (by rfl) ?_
        obtain ⟨w10, ew11, hf⟩ := aBnE hf
        refine aCallV (b := 1) (As := [.ref 1005, .int a1, .int a2]) (rest := []) hC hT rfl k_X9_wordOf_91.1 _ _ k_X9_wordOf_91.2 (by decide) (by rfl) (by rfl) (by rfl) (Nat.le_of_ble_eq_true rfl) (by decide) (J_X9_is_1_1005 C.2.2.1 C.1 N a1 a2 S ew11) ?_
        refine aIf_eq hC hT (tgt := 56) rfl (by decide) (fun hc12 => ?_) (fun hc12 => ?_)
        · have hf := aIfT hf hc12
          refine aRun_ok hC hT 4 (cf' := (61, [(0, .ref 1), (1, .int a1), (2, .int a2)], [.int a2, .int a1, .ref 1006, .ref 1], LAY, S)) (by rfl) ?_
          obtain ⟨w13, ew14, hf⟩ := aBnE hf
          refine aCallV (b := 1) (As := [.ref 1006, .int a1, .int a2]) (rest := []) hC hT rfl k_X9_wordOf_91.1 _ _ k_X9_wordOf_91.2 (by decide) (by rfl) (by rfl) (by rfl) (Nat.le_of_ble_eq_true rfl) (by decide) (J_X9_is_1_1006 C.2.2.1 C.1 N a1 a2 S ew14) ?_
          refine aIf_eq hC hT (tgt := 70) rfl (by decide) (fun hc15 => ?_) (fun hc15 => ?_)
          · have hf := aIfT hf hc15
            refine aRun_ok hC hT 4 (cf' := (75, [(0, .ref 1), (1, .int a1), (2, .int a2)], [.int a2, .int a1, .ref 1007, .ref 1], LAY, S)) (by rfl) ?_
            obtain ⟨w16, ew17, hf⟩ := aBnE hf
            refine aCallV (b := 1) (As := [.ref 1007, .int a1, .int a2]) (rest := []) hC hT rfl k_X9_wordOf_91.1 _ _ k_X9_wordOf_91.2 (by decide) (by rfl) (by rfl) (by rfl) (Nat.le_of_ble_eq_true rfl) (by decide) (J_X9_is_1_1007 C.2.2.1 C.1 N a1 a2 S ew17) ?_
            refine aIf_eq hC hT (tgt := 84) rfl (by decide) (fun hc18 => ?_) (fun hc18 => ?_)
            · have hf := aIfT hf hc18
              refine aRun_ok hC hT 4 (cf' := (89, [(0, .ref 1), (1, .int a1), (2, .int a2)], [.int a2, .int a1, .ref 1008, .ref 1], LAY, S)) (by rfl) ?_
              obtain ⟨w19, ew20, hf⟩ := aBnE hf
              refine aCallV (b := 1) (As := [.ref 1008, .int a1, .int a2]) (rest := []) hC hT rfl k_X9_wordOf_91.1 _ _ k_X9_wordOf_91.2 (by decide) (by rfl) (by rfl) (by rfl) (Nat.le_of_ble_eq_true rfl) (by decide) (J_X9_is_1_1008 C.2.2.1 C.1 N a1 a2 S ew20) ?_
              refine aIf_eq hC hT (tgt := 98) rfl (by decide) (fun hc21 => ?_) (fun hc21 => ?_)
              · have hf := aIfT hf hc21
                refine aRun_ok hC hT 4 (cf' := (103, [(0, .ref 1), (1, .int a1), (2, .int a2)], [.int a2, .int a1, .ref 1009, .ref 1], LAY, S)) (by rfl) ?_
                obtain ⟨w22, ew23, hf⟩ := aBnE hf
                refine aCallV (b := 1) (As := [.ref 1009, .int a1, .int a2]) (rest := []) hC hT rfl k_X9_wordOf_91.1 _ _ k_X9_wordOf_91.2 (by decide) (by rfl) (by rfl) (by rfl) (Nat.le_of_ble_eq_true rfl) (by decide) (J_X9_is_1_1009 C.2.2.1 C.1 N a1 a2 S ew23) ?_
                refine aIf_eq hC hT (tgt := 112) rfl (by decide) (fun hc24 => ?_) (fun hc24 => ?_)
                · have hf := aIfT hf hc24
                  refine aRun_ok hC hT 4 (cf' := (117, [(0, .ref 1), (1, .int a1), (2, .int a2)], [.int a2, .int a1, .ref 1010, .ref 1], LAY, S)) (by rfl) ?_
                  obtain ⟨w25, ew26, hf⟩ := aBnE hf
                  refine aCallV (b := 1) (As := [.ref 1010, .int a1, .int a2]) (rest := []) hC hT rfl k_X9_wordOf_91.1 _ _ k_X9_wordOf_91.2 (by decide) (by rfl) (by rfl) (by rfl) (Nat.le_of_ble_eq_true rfl) (by decide) (J_X9_is_1_1010 C.2.2.1 C.1 N a1 a2 S ew26) ?_
                  refine aIf_eq hC hT (tgt := 128) rfl (by decide) (fun hc27 => ?_) (fun hc27 => ?_)
                  · have hf := aIfT hf hc27
                    refine aRun_ok hC hT 1 (cf' := (129, [(0, .ref 1), (1, .int a1), (2, .int a2)], [.int (3 : Int32)], LAY, S)) (by rfl) ?_
                    have e9 := Option.some.inj hf; subst e9
                    exact aRetI hC hT hF rfl rfl
                  · have hf := aIfF hf hc27
                    refine aRun_ok hC hT 2 (cf' := (129, [(0, .ref 1), (1, .int a1), (2, .int a2)], [.int (18 : Int32)], LAY, S)) (by rfl) ?_
                    have e9 := Option.some.inj hf; subst e9
                    exact aRetI hC hT hF rfl rfl
                · have hf := aIfF hf hc24
                  refine aRun_ok hC hT 1 (cf' := (111, [(0, .ref 1), (1, .int a1), (2, .int a2)], [.int (17 : Int32)], LAY, S)) (by rfl) ?_
                  have e9 := Option.some.inj hf; subst e9
                  exact aRetI hC hT hF rfl rfl
              · have hf := aIfF hf hc21
                refine aRun_ok hC hT 1 (cf' := (97, [(0, .ref 1), (1, .int a1), (2, .int a2)], [.int (16 : Int32)], LAY, S)) (by rfl) ?_
                have e9 := Option.some.inj hf; subst e9
                exact aRetI hC hT hF rfl rfl
            · have hf := aIfF hf hc18
              refine aRun_ok hC hT 1 (cf' := (83, [(0, .ref 1), (1, .int a1), (2, .int a2)], [.int (15 : Int32)], LAY, S)) (by rfl) ?_
              have e9 := Option.some.inj hf; subst e9
              exact aRetI hC hT hF rfl rfl
          · have hf := aIfF hf hc15
            refine aRun_ok hC hT 1 (cf' := (69, [(0, .ref 1), (1, .int a1), (2, .int a2)], [.int (14 : Int32)], LAY, S)) (by rfl) ?_
            have e9 := Option.some.inj hf; subst e9
            exact aRetI hC hT hF rfl rfl
        · have hf := aIfF hf hc12
          refine aRun_ok hC hT 1 (cf' := (55, [(0, .ref 1), (1, .int a1), (2, .int a2)], [.int (13 : Int32)], LAY, S)) (by rfl) ?_
          have e9 := Option.some.inj hf; subst e9
          exact aRetI hC hT hF rfl rfl
      · have hf := aIfF hf hc9
        refine aRun_ok hC hT 1 (cf' := (41, [(0, .ref 1), (1, .int a1), (2, .int a2)], [.int (12 : Int32)], LAY, S)) (by rfl) ?_
        have e9 := Option.some.inj hf; subst e9
        exact aRetI hC hT hF rfl rfl
    · have hf := aIfF hf hc6
      refine aRun_ok hC hT 1 (cf' := (27, [(0, .ref 1), (1, .int a1), (2, .int a2)], [.int (11 : Int32)], LAY, S)) (by rfl) ?_
      have e9 := Option.some.inj hf; subst e9
      exact aRetI hC hT hF rfl rfl
  · have hf := aIfF hf hc3
    refine aRun_ok hC hT 1 (cf' := (13, [(0, .ref 1), (1, .int a1), (2, .int a2)], [.int (10 : Int32)], LAY, S)) (by rfl) ?_
    have e9 := Option.some.inj hf; subst e9
    exact aRetI hC hT hF rfl rfl
