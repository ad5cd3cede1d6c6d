def X11_count_42 (N : Nat) (a1 : Int32) (S : aSt) : Option (Int32) := (if a1.toInt < 0 ∨ 5 < a1.toInt then some (((-3) : Int32)) else (if a1 = (0 : Int32) then some ((S.1 42 5)) else (if a1 = (1 : Int32) then some ((S.1 42 1)) else (if a1 = (2 : Int32) then some ((S.1 42 14)) else (if a1 = (3 : Int32) then some ((S.1 42 10)) else (if a1 = (4 : Int32) then some ((S.1 42 11)) else (if a1 = (5 : Int32) then some ((S.1 42 12)) else none)))))))
set_option maxHeartbeats 4000000 in
set_option maxRecDepth 100000 in
theorem J_X11_count_42 (l : Launch) (g : aWg) (N : Nat) (a1 : Int32) (S : aSt) {r : Int32} (hf : X11_count_42 N a1 S = (some r)) : aJ l g yX11_count M_X11_count [.ref 42, .int a1] LAY S (some (.int r)) LAY S 0 0 := by
  refine aJ_of (by decide +kernel) rfl (Nat.le_of_ble_eq_true rfl) (fun h => nomatch h) ?_
  intro C hg hl hC hz hF
  subst hg; subst hl
  have hT := ok_X11_count
  unfold X11_count_42 at hf
  show aX C M_X11_count 0 0 (0, [(0, .ref 42), (1, .int a1)], [], LAY, S)
  refine aRun_ok hC hT 1 (cf' := (1, [(0, .ref 42), (1, .int a1)], [.int a1], LAY, S)) (by rfl) ?_
  rcases aTswE hf with ⟨hc1, hf⟩ | ⟨hc1, hf⟩
  · refine aTswD hC hT (tgt := 70) rfl hc1 (by decide) ?_
    refine aRun_ok hC hT 1 (cf' := (72, [(0, .ref 42), (1, .int a1)], [.int ((-3) : Int32)], LAY, S)) (by rfl) ?_
    have e9 := Option.some.inj hf; subst e9
    exact aRetI hC hT hF rfl rfl
  · rcases aIfE hf with ⟨hc2, hf⟩ | ⟨-, hf⟩
    · refine aTsw hC hT (off := 39) (tgt := 40) rfl (0 : Int32) hc2 (by decide) (by decide) (by rfl) (by decide) ?_
      refine aRun_ok hC hT 2 (cf' := (44, [(0, .ref 42), (1, .int a1)], [.int (S.1 42 5)], LAY, S)) (by rfl) ?_
      have e9 := Option.some.inj hf; subst e9
      exact aRetI hC hT hF rfl rfl
    · rcases aIfE hf with ⟨hc3, hf⟩ | ⟨-, hf⟩
      · refine aTsw hC hT (off := 44) (tgt := 45) rfl (1 : Int32) hc3 (by decide) (by decide) (by rfl) (by decide) ?_
        refine aRun_ok hC hT 2 (cf' := (49, [(0, .ref 42), (1, .int a1)], [.int (S.1 42 1)], LAY, S)) (by rfl) ?_
        have e9 := Option.some.inj hf; subst e9
        exact aRetI hC hT hF rfl rfl
      · rcases aIfE hf with ⟨hc4, hf⟩ | ⟨-, hf⟩
        · refine aTsw hC hT (off := 49) (tgt := 50) rfl (2 : Int32) hc4 (by decide) (by decide) (by rfl) (by decide) ?_
          refine aRun_ok hC hT 2 (cf' := (54, [(0, .ref 42), (1, .int a1)], [.int (S.1 42 14)], LAY, S)) (by rfl) ?_
          have e9 := Option.some.inj hf; subst e9
          exact aRetI hC hT hF rfl rfl
        · rcases aIfE hf with ⟨hc5, hf⟩ | ⟨-, hf⟩
          · refine aTsw hC hT (off := 54) (tgt := 55) rfl (3 : Int32) hc5 (by decide) (by decide) (by rfl) (by decide) ?_
            refine aRun_ok hC hT 2 (cf' := (59, [(0, .ref 42), (1, .int a1)], [.int (S.1 42 10)], LAY, S)) (by rfl) ?_
            have e9 := Option.some.inj hf; subst e9
            exact aRetI hC hT hF rfl rfl
          · rcases aIfE hf with ⟨hc6, hf⟩ | ⟨-, hf⟩
            · refine aTsw hC hT (off := 59) (tgt := 60) rfl (4 : Int32) hc6 (by decide) (by decide) (by rfl) (by decide) ?_
              refine aRun_ok hC hT 2 (cf' := (64, [(0, .ref 42), (1, .int a1)], [.int (S.1 42 11)], LAY, S)) (by rfl) ?_
              have e9 := Option.some.inj hf; subst e9
              exact aRetI hC hT hF rfl rfl
            · rcases aIfE hf with ⟨hc7, hf⟩ | ⟨-, hf⟩
              · refine aTsw hC hT (off := 64) (tgt := 65) rfl (5 : Int32) hc7 (by decide) (by decide) (by rfl) (by decide) ?_
                refine aRun_ok hC hT 2 (cf' := (69, [(0, .ref 42), (1, .int a1)], [.int (S.1 42 12)], LAY, S)) (by rfl) ?_
                have e9 := Option.some.inj hf; subst e9
                exact aRetI hC hT hF rfl rfl
              · cases hf
def X11_isEntry_42 (N : Nat) (a1 : Int32) (S : aSt) : Option (Int32) := (aLet (X11_in (a1.toInt64) (0 : Int64) (((S.1 42 5) - (1 : Int32)).toInt64)) (fun w1 => (if w1 = 0 ∨ w1 = 1 then some (w1) else none)))
set_option maxHeartbeats 4000000 in
set_option maxRecDepth 100000 in
theorem J_X11_isEntry_42 (l : Launch) (g : aWg) (N : Nat) (a1 : Int32) (S : aSt) {r : Int32} (hf : X11_isEntry_42 N a1 S = (some r)) : aJ l g yX11_isEntry M_X11_isEntry [.ref 42, .int a1] LAY S (some (.int r)) LAY S 0 0 := by
  refine aJ_of (by decide +kernel) rfl (Nat.le_of_ble_eq_true rfl) (fun h => nomatch h) ?_
  intro C hg hl hC hz hF
  subst hg; subst hl
  have hT := ok_X11_isEntry
  unfold X11_isEntry_42 at hf
  show aX C M_X11_isEntry 0 0 (0, [(0, .ref 42), (1, .int a1)], [], LAY, S)
  refine aRun_ok hC hT 8 (cf' := (10, [(0, .ref 42), (1, .int a1)], [.long (((S.1 42 5) - (1 : Int32)).toInt64), .long (0 : Int64), .long (a1.toInt64)], LAY, S)) (by rfl) ?_
  obtain ⟨w1, ew2, hf⟩ := aLetE hf
  refine aCallS (As := [.long (a1.toInt64), .long (0 : Int64), .long (((S.1 42 5) - (1 : Int32)).toInt64)]) (rest := []) hC hT rfl k_X11_isEntry_70.1 _ k_X11_isEntry_70.2 (by rfl) (Nat.le_of_ble_eq_true rfl) (by decide) (J_X11_in C.2.2.1 C.1 (a1.toInt64) (0 : Int64) (((S.1 42 5) - (1 : Int32)).toInt64) S ew2) ?_
  obtain ⟨hb3, hf⟩ := aGdE hf
  have e9 := Option.some.inj hf; subst e9
  exact aRetB hC hT hF rfl hb3 rfl
def X11_entry_42 (N : Nat) (a1 : Int32) (a2 : Int32) (S : aSt) : Option (Int32) := (Option.bind (X11_isEntry_42 N a1 S) (fun w1 => (if w1 = (0 : Int32) then some (((-2) : Int32)) else (aLet (X11_in (a2.toInt64) (0 : Int64) (4 : Int64)) (fun w4 => (if w4 = (0 : Int32) then some (((-3) : Int32)) else (if aIx (((5 : Int32) * a1) + a2) 150 = true then some (((S.2.2 45) (((5 : Int32) * a1) + a2).toNatClampNeg)) else none)))))))
set_option maxHeartbeats 4000000 in
set_option maxRecDepth 100000 in
theorem J_X11_entry_42 (l : Launch) (g : aWg) (N : Nat) (a1 : Int32) (a2 : Int32) (S : aSt) {r : Int32} (hf : X11_entry_42 N a1 a2 S = (some r)) : aJ l g yX11_entry M_X11_entry [.ref 42, .int a1, .int a2] LAY S (some (.int r)) LAY S 0 0 := by
  refine aJ_of (by decide +kernel) rfl (Nat.le_of_ble_eq_true rfl) (fun h => nomatch h) ?_
  intro C hg hl hC hz hF
  subst hg; subst hl
  have hT := ok_X11_entry
  unfold X11_entry_42 at hf
  show aX C M_X11_entry 0 0 (0, [(0, .ref 42), (1, .int a1), (2, .int a2)], [], LAY, S)
  refine aRun_ok hC hT 2 (cf' := (2, [(0, .ref 42), (1, .int a1), (2, .int a2)], [.int a1, .ref 42], LAY, S)) (by rfl) ?_
  obtain ⟨w1, ew2, hf⟩ := aBnE hf
  refine aCallV (b := 42) (As := [.int a1]) (rest := []) hC hT rfl k_X11_entry_146.1 _ _ k_X11_entry_146.2 (by decide) (by rfl) (by rfl) (by rfl) (Nat.le_of_ble_eq_true rfl) (by decide) (J_X11_isEntry_42 C.2.2.1 C.1 N a1 S ew2) ?_
  refine aIf_ne hC hT (tgt := 11) rfl (by decide) (fun hc3 => ?_) (fun hc3 => ?_)
  · have hf := aIfF hf hc3
    refine aRun_ok hC hT 4 (cf' := (17, [(0, .ref 42), (1, .int a1), (2, .int a2)], [.long (4 : Int64), .long (0 : Int64), .long (a2.toInt64)], LAY, S)) (by rfl) ?_
    obtain ⟨w4, ew5, hf⟩ := aLetE hf
    refine aCallS (As := [.long (a2.toInt64), .long (0 : Int64), .long (4 : Int64)]) (rest := []) hC hT rfl k_X11_entry_70.1 _ k_X11_entry_70.2 (by rfl) (Nat.le_of_ble_eq_true rfl) (by decide) (J_X11_in C.2.2.1 C.1 (a2.toInt64) (0 : Int64) (4 : Int64) S ew5) ?_
    refine aIf_eq hC hT (tgt := 36) rfl (by decide) (fun hc6 => ?_) (fun hc6 => ?_)
    · have hf := aIfT hf hc6
      refine aRun_ok hC hT 1 (cf' := (38, [(0, .ref 42), (1, .int a1), (2, .int a2)], [.int ((-3) : Int32)], LAY, S)) (by rfl) ?_
      have e9 := Option.some.inj hf; subst e9
      exact aRetI hC hT hF rfl rfl
    · have hf := aIfF hf hc6
      refine aRun_ok hC hT 7 (cf' := (32, [(0, .ref 42), (1, .int a1), (2, .int a2)], [.int (((5 : Int32) * a1) + a2), .ref 45], LAY, S)) (by rfl) ?_
      obtain ⟨hin7, hf⟩ := aGdE hf
      refine aIald hC hT rfl (by decide) (by rfl) hin7 ?_
      refine aRun_ok hC hT 1 (cf' := (38, [(0, .ref 42), (1, .int a1), (2, .int a2)], [.int ((S.2.2 45) (((5 : Int32) * a1) + a2).toNatClampNeg)], LAY, S)) (by rfl) ?_
      have e9 := Option.some.inj hf; subst e9
      exact aRetI hC hT hF rfl rfl
  · have hf := aIfT hf hc3
    refine aRun_ok hC hT 1 (cf' := (10, [(0, .ref 42), (1, .int a1), (2, .int a2)], [.int ((-2) : Int32)], LAY, S)) (by rfl) ?_
    have e9 := Option.some.inj hf; subst e9
    exact aRetI hC hT hF rfl rfl
def X11_erase_42 (S : aSt) : Int32 × aSt := ((S.1 42 1), (aI S 42 1 (0 : Int32)))
set_option maxHeartbeats 4000000 in
set_option maxRecDepth 100000 in
theorem J_X11_erase_42 (l : Launch) (g : aWg) (S : aSt) {r : Int32 × aSt} (hf : X11_erase_42 S = r) : aJ l g yX11_erase M_X11_erase [.ref 42] LAY S (some (.int r.1)) LAY r.2 0 0 := by
  refine aJ_of (by decide +kernel) rfl (Nat.le_of_ble_eq_true rfl) (fun h => nomatch h) ?_
  intro C hg hl hC hz hF
  subst hg; subst hl
  have hT := ok_X11_erase
  unfold X11_erase_42 at hf
  show aX C M_X11_erase 0 0 (0, [(0, .ref 42)], [], LAY, S)
  refine aRun_ok hC hT 7 (cf' := (11, [(1, .int (S.1 42 1)), (0, .ref 42)], [.int (S.1 42 1)], LAY, (aI S 42 1 (0 : Int32)))) (by rfl) ?_
  subst hf
  exact aRetI hC hT hF rfl rfl
def X11_layTwo_42_b19 (N : Nat) (s0 : Int32) (S : aSt) : Option (aSt) := (Option.bind (X11_layPairs_42 N s0 S) (fun w6 => some (w6)))
set_option maxHeartbeats 4000000 in
set_option maxRecDepth 100000 in
theorem X11_layTwo_42_b19_ok {C : aC} {N : Nat} (hC : aCx C M_X11_layTwo) {r : aSt} (hF : aFin C none LAY r 0 0) (s0 : Int32) (S : aSt) (hf : X11_layTwo_42_b19 N s0 S = (some r)) : aX C M_X11_layTwo 0 0 (19, [], [.int s0, .ref 42], LAY, S) := by
  have hT := ok_X11_layTwo
  unfold X11_layTwo_42_b19 at hf
  obtain ⟨w6, ew7, hf⟩ := aBnE hf
  refine aCallV (b := 42) (As := [.int s0]) (rest := []) hC hT rfl k_X11_layTwo_249.1 _ _ k_X11_layTwo_249.2 (by decide) (by rfl) (by rfl) (by rfl) (Nat.le_of_ble_eq_true rfl) (by decide) (J_X11_layPairs_42 C.2.2.1 C.1 N s0 S ew7) ?_
  have e9 := Option.some.inj hf; subst e9
  exact aRetV hC hT hF rfl rfl
def X11_layTwo_42 (N : Nat) (a1 : Int32) (S : aSt) : Option (aSt) := (Option.bind (X11_laySlips_42 N S) (fun w1 => (if a1 = (0 : Int32) then (Option.bind (X11_outOf_42 N ((-1) : Int32) w1) (fun w4 => (X11_layTwo_42_b19 N (-w4) w1))) else (X11_layTwo_42_b19 N (0 : Int32) w1))))
set_option maxHeartbeats 4000000 in
set_option maxRecDepth 100000 in
theorem J_X11_layTwo_42 (l : Launch) (g : aWg) (N : Nat) (a1 : Int32) (S : aSt) {r : aSt} (hf : X11_layTwo_42 N a1 S = (some r)) : aJ l g yX11_layTwo M_X11_layTwo [.ref 42, .int a1] LAY S none LAY r 0 0 := by
  refine aJ_of (by decide +kernel) rfl (Nat.le_of_ble_eq_true rfl) (fun h => nomatch h) ?_
  intro C hg hl hC hz hF
  subst hg; subst hl
  have hT := ok_X11_layTwo
  unfold X11_layTwo_42 at hf
  show aX C M_X11_layTwo 0 0 (0, [(0, .ref 42), (1, .int a1)], [], LAY, S)
  refine aRun_ok hC hT 1 (cf' := (1, [(0, .ref 42), (1, .int a1)], [.ref 42], LAY, S)) (by rfl) ?_
  obtain ⟨w1, ew2, hf⟩ := aBnE hf
  refine aCallV (b := 42) (As := []) (rest := []) hC hT rfl k_X11_layTwo_214.1 _ _ k_X11_layTwo_214.2 (by decide) (by rfl) (by rfl) (by rfl) (Nat.le_of_ble_eq_true rfl) (by decide) (J_X11_laySlips_42 C.2.2.1 C.1 N  S ew2) ?_
  refine aRun_ok hC hT 2 (cf' := (6, [(0, .ref 42), (1, .int a1)], [.int a1, .ref 42], LAY, w1)) (by rfl) ?_
  refine aIf_eq hC hT (tgt := 13) rfl (by decide) (fun hc3 => ?_) (fun hc3 => ?_)
  · have hf := aIfT hf hc3
    refine aRun_ok hC hT 2 (cf' := (15, [(0, .ref 42), (1, .int a1)], [.int ((-1) : Int32), .ref 42, .ref 42], LAY, w1)) (by rfl) ?_
    obtain ⟨w4, ew5, hf⟩ := aBnE hf
    refine aCallV (b := 42) (As := [.int ((-1) : Int32)]) (rest := [.ref 42]) hC hT rfl k_X11_layTwo_155.1 _ _ k_X11_layTwo_155.2 (by decide) (by rfl) (by rfl) (by rfl) (Nat.le_of_ble_eq_true rfl) (by decide) (J_X11_outOf_42 C.2.2.1 C.1 N ((-1) : Int32) w1 ew5) ?_
    refine aRun_ok hC hT 1 (cf' := (19, [(0, .ref 42), (1, .int a1)], [.int (-w4), .ref 42], LAY, w1)) (by rfl) ?_
    refine aLocs [] (lv' := []) rfl ?_
    exact X11_layTwo_42_b19_ok hC hF (-w4) w1 hf
  · have hf := aIfF hf hc3
    refine aRun_ok hC hT 2 (cf' := (19, [(0, .ref 42), (1, .int a1)], [.int (0 : Int32), .ref 42], LAY, w1)) (by rfl) ?_
    refine aLocs [] (lv' := []) rfl ?_
    exact X11_layTwo_42_b19_ok hC hF (0 : Int32) w1 hf
def X11_hide_42 (N : Nat) (a1 : Int32) (S : aSt) : Option (Int64 × aSt) := (aLet (X11_in (a1.toInt64) (0 : Int64) (1 : Int64)) (fun w1 => (if w1 = (0 : Int32) then some ((((-3) : Int64), S)) else (Option.bind (X11_layTwo_42 N (1 : Int32) S) (fun w4 => (if a1 = (0 : Int32) then some (((w4.2.1 42 26), w4)) else some (((w4.2.1 42 27), w4))))))))
set_option maxHeartbeats 4000000 in
set_option maxRecDepth 100000 in
theorem J_X11_hide_42 (l : Launch) (g : aWg) (N : Nat) (a1 : Int32) (S : aSt) {r : Int64 × aSt} (hf : X11_hide_42 N a1 S = (some r)) : aJ l g yX11_hide M_X11_hide [.ref 42, .int a1] LAY S (some (.long r.1)) LAY r.2 0 0 := by
  refine aJ_of (by decide +kernel) rfl (Nat.le_of_ble_eq_true rfl) (fun h => nomatch h) ?_
  intro C hg hl hC hz hF
  subst hg; subst hl
  have hT := ok_X11_hide
  unfold X11_hide_42 at hf
  show aX C M_X11_hide 0 0 (0, [(0, .ref 42), (1, .int a1)], [], LAY, S)
  refine aRun_ok hC hT 4 (cf' := (4, [(0, .ref 42), (1, .int a1)], [.long (1 : Int64), .long (0 : Int64), .long (a1.toInt64)], LAY, S)) (by rfl) ?_
  obtain ⟨w1, ew2, hf⟩ := aLetE hf
  refine aCallS (As := [.long (a1.toInt64), .long (0 : Int64), .long (1 : Int64)]) (rest := []) hC hT rfl k_X11_hide_70.1 _ k_X11_hide_70.2 (by rfl) (Nat.le_of_ble_eq_true rfl) (by decide) (J_X11_in C.2.2.1 C.1 (a1.toInt64) (0 : Int64) (1 : Int64) S ew2) ?_
  refine aIf_ne hC hT (tgt := 14) rfl (by decide) (fun hc3 => ?_) (fun hc3 => ?_)
  · have hf := aIfF hf hc3
    refine aRun_ok hC hT 2 (cf' := (16, [(0, .ref 42), (1, .int a1)], [.int (1 : Int32), .ref 42], LAY, S)) (by rfl) ?_
    obtain ⟨w4, ew5, hf⟩ := aBnE hf
    refine aCallV (b := 42) (As := [.int (1 : Int32)]) (rest := []) hC hT rfl k_X11_hide_254.1 _ _ k_X11_hide_254.2 (by decide) (by rfl) (by rfl) (by rfl) (Nat.le_of_ble_eq_true rfl) (by decide) (J_X11_layTwo_42 C.2.2.1 C.1 N (1 : Int32) S ew5) ?_
    refine aRun_ok hC hT 1 (cf' := (20, [(0, .ref 42), (1, .int a1)], [.int a1], LAY, w4)) (by rfl) ?_
    refine aIf_ne hC hT (tgt := 30) rfl (by decide) (fun hc6 => ?_) (fun hc6 => ?_)
    · have hf := aIfF hf hc6
      refine aRun_ok hC hT 2 (cf' := (34, [(0, .ref 42), (1, .int a1)], [.long (w4.2.1 42 27)], LAY, w4)) (by rfl) ?_
      have e9 := Option.some.inj hf; subst e9
      exact aRetL hC hT hF rfl rfl
    · have hf := aIfT hf hc6
      refine aRun_ok hC hT 3 (cf' := (34, [(0, .ref 42), (1, .int a1)], [.long (w4.2.1 42 26)], LAY, w4)) (by rfl) ?_
      have e9 := Option.some.inj hf; subst e9
      exact aRetL hC hT hF rfl rfl
  · have hf := aIfT hf hc3
    refine aRun_ok hC hT 1 (cf' := (13, [(0, .ref 42), (1, .int a1)], [.long ((-3) : Int64)], LAY, S)) (by rfl) ?_
    have e9 := Option.some.inj hf; subst e9
    exact aRetL hC hT hF rfl rfl
def X11_isFigure_b37 (N : Nat) (v0 : Int32) (v1 : Int32) (v2 : Int32) : Option (Int32) := (if v2 = (1 : Int32) then (if v1 ≤ (0 : Int32) then some ((0 : Int32)) else (Option.bind (X11_figures N v0) (fun w4 => (Option.bind (X11_figures N v1) (fun w6 => (if w4 = w6 then some ((1 : Int32)) else some ((0 : Int32)))))))) else some ((0 : Int32)))
set_option maxHeartbeats 4000000 in
set_option maxRecDepth 100000 in
theorem X11_isFigure_b37_ok {C : aC} {N : Nat} {S : aSt} (hC : aCx C M_X11_isFigure) {r : Int32} (hF : aFin C (some (.int r)) LAY S 0 0) (v0 : Int32) (v1 : Int32) (v2 : Int32) (hf : X11_isFigure_b37 N v0 v1 v2 = (some r)) : aX C M_X11_isFigure 0 0 (37, [(0, .int v0), (1, .int v1), (2, .int v2)], [], LAY, S) := by
  have hT := ok_X11_isFigure
  unfold X11_isFigure_b37 at hf
  refine aRun_ok hC hT 2 (cf' := (39, [(0, .int v0), (1, .int v1), (2, .int v2)], [.int (1 : Int32), .int v2], LAY, S)) (by rfl) ?_
  refine aCmp_ne hC hT (tgt := 61) rfl (by decide) (fun hc2 => ?_) (fun hc2 => ?_)
  · have hf := aIfF hf hc2
    refine aRun_ok hC hT 1 (cf' := (62, [(0, .int v0), (1, .int v1), (2, .int v2)], [.int (0 : Int32)], LAY, S)) (by rfl) ?_
    have e9 := Option.some.inj hf; subst e9
    exact aRetB hC hT hF rfl (Or.inl rfl) rfl
  · have hf := aIfT hf hc2
    refine aRun_ok hC hT 1 (cf' := (43, [(0, .int v0), (1, .int v1), (2, .int v2)], [.int v1], LAY, S)) (by rfl) ?_
    refine aIf_le hC hT (tgt := 61) rfl (by decide) (fun hc3 => ?_) (fun hc3 => ?_)
    · have hf := aIfT hf hc3
      refine aRun_ok hC hT 1 (cf' := (62, [(0, .int v0), (1, .int v1), (2, .int v2)], [.int (0 : Int32)], LAY, S)) (by rfl) ?_
      have e9 := Option.some.inj hf; subst e9
      exact aRetB hC hT hF rfl (Or.inl rfl) rfl
    · have hf := aIfF hf hc3
      refine aRun_ok hC hT 1 (cf' := (47, [(0, .int v0), (1, .int v1), (2, .int v2)], [.int v0], LAY, S)) (by rfl) ?_
      obtain ⟨w4, ew5, hf⟩ := aBnE hf
      refine aCallS (As := [.int v0]) (rest := []) hC hT rfl k_X11_isFigure_182.1 _ k_X11_isFigure_182.2 (by rfl) (Nat.le_of_ble_eq_true rfl) (by decide) (J_X11_figures C.2.2.1 C.1 N v0 S ew5) ?_
      refine aRun_ok hC hT 1 (cf' := (51, [(0, .int v0), (1, .int v1), (2, .int v2)], [.int v1, .int w4], LAY, S)) (by rfl) ?_
      obtain ⟨w6, ew7, hf⟩ := aBnE hf
      refine aCallS (As := [.int v1]) (rest := [.int w4]) hC hT rfl k_X11_isFigure_182.1 _ k_X11_isFigure_182.2 (by rfl) (Nat.le_of_ble_eq_true rfl) (by decide) (J_X11_figures C.2.2.1 C.1 N v1 S ew7) ?_
      refine aCmp_ne hC hT (tgt := 61) rfl (by decide) (fun hc8 => ?_) (fun hc8 => ?_)
      · have hf := aIfF hf hc8
        refine aRun_ok hC hT 1 (cf' := (62, [(0, .int v0), (1, .int v1), (2, .int v2)], [.int (0 : Int32)], LAY, S)) (by rfl) ?_
        have e9 := Option.some.inj hf; subst e9
        exact aRetB hC hT hF rfl (Or.inl rfl) rfl
      · have hf := aIfT hf hc8
        refine aRun_ok hC hT 2 (cf' := (62, [(0, .int v0), (1, .int v1), (2, .int v2)], [.int (1 : Int32)], LAY, S)) (by rfl) ?_
        have e9 := Option.some.inj hf; subst e9
        exact aRetB hC hT hF rfl (Or.inr rfl) rfl
def X11_isFigure_b29 (N : Nat) (rec4 : Int32 → Int32 → Int32 → Int32 → Option (Int32)) (v0 : Int32) (v1 : Int32) (v3 : Int32) (s0 : Int32) (s1 : Int32) : Option (Int32) := (rec4 v0 v1 (s1 + s0) (v3 + (1 : Int32)))
set_option maxHeartbeats 4000000 in
set_option maxRecDepth 100000 in
theorem X11_isFigure_b29_ok {C : aC} {N : Nat} {S : aSt} {rec4 : Int32 → Int32 → Int32 → Int32 → Option (Int32)} (hC : aCx C M_X11_isFigure) {r : Int32} (hF : aFin C (some (.int r)) LAY S 0 0) (hrec4 : ∀ (v0 : Int32) (v1 : Int32) (v2 : Int32) (v3 : Int32), rec4 v0 v1 v2 v3 = (some r) → aX C M_X11_isFigure 0 0 (4, [(0, .int v0), (1, .int v1), (2, .int v2), (3, .int v3)], [], LAY, S)) (v0 : Int32) (v1 : Int32) (v3 : Int32) (s0 : Int32) (s1 : Int32) (hf : X11_isFigure_b29 N rec4 v0 v1 v3 s0 s1 = (some r)) : aX C M_X11_isFigure 0 0 (29, [(0, .int v0), (1, .int v1), (3, .int v3)], [.int s0, .int s1], LAY, S) := by
  have hT := ok_X11_isFigure
  unfold X11_isFigure_b29 at hf
  refine aRun_ok hC hT 4 (cf' := (4, [(3, .int (v3 + (1 : Int32))), (2, .int (s1 + s0)), (0, .int v0), (1, .int v1)], [], LAY, S)) (by rfl) ?_
  refine aLocs [2, 3, 1, 0] (lv' := [(0, .int v0), (1, .int v1), (2, .int (s1 + s0)), (3, .int (v3 + (1 : Int32)))]) rfl ?_
  exact hrec4 v0 v1 (s1 + s0) (v3 + (1 : Int32)) hf
def X11_isFigure_b4 (N : Nat) (rec4 : Int32 → Int32 → Int32 → Int32 → Option (Int32)) (v0 : Int32) (v1 : Int32) (v2 : Int32) (v3 : Int32) : Option (Int32) := (if (6 : Int32) ≤ v3 then (X11_isFigure_b37 N v0 v1 v2) else (Option.bind (X11_figure N v0 v3) (fun w9 => (Option.bind (X11_figure N v1 v3) (fun w11 => (if w9 = w11 then (X11_isFigure_b29 N rec4 v0 v1 v3 (0 : Int32) v2) else (X11_isFigure_b29 N rec4 v0 v1 v3 (1 : Int32) v2)))))))
set_option maxHeartbeats 4000000 in
set_option maxRecDepth 100000 in
theorem X11_isFigure_b4_ok {C : aC} {N : Nat} {S : aSt} {rec4 : Int32 → Int32 → Int32 → Int32 → Option (Int32)} (hC : aCx C M_X11_isFigure) {r : Int32} (hF : aFin C (some (.int r)) LAY S 0 0) (hrec4 : ∀ (v0 : Int32) (v1 : Int32) (v2 : Int32) (v3 : Int32), rec4 v0 v1 v2 v3 = (some r) → aX C M_X11_isFigure 0 0 (4, [(0, .int v0), (1, .int v1), (2, .int v2), (3, .int v3)], [], LAY, S)) (v0 : Int32) (v1 : Int32) (v2 : Int32) (v3 : Int32) (hf : X11_isFigure_b4 N rec4 v0 v1 v2 v3 = (some r)) : aX C M_X11_isFigure 0 0 (4, [(0, .int v0), (1, .int v1), (2, .int v2), (3, .int v3)], [], LAY, S) := by
  have hT := ok_X11_isFigure
  unfold X11_isFigure_b4 at hf
  refine aRun_ok hC hT 2 (cf' := (7, [(0, .int v0), (1, .int v1), (2, .int v2), (3, .int v3)], [.int (6 : Int32), .int v3], LAY, S)) (by rfl) ?_
  refine aCmp_ge hC hT (tgt := 37) rfl (by decide) (fun hc1 => ?_) (fun hc1 => ?_)
  · have hf := aIfT hf hc1
    refine aLocs [0, 1, 2] (lv' := [(0, .int v0), (1, .int v1), (2, .int v2)]) rfl ?_
    exact X11_isFigure_b37_ok hC hF v0 v1 v2 hf
  · have hf := aIfF hf hc1
    refine aRun_ok hC hT 3 (cf' := (13, [(0, .int v0), (1, .int v1), (2, .int v2), (3, .int v3)], [.int v3, .int v0, .int v2], LAY, S)) (by rfl) ?_
    obtain ⟨w9, ew10, hf⟩ := aBnE hf
    refine aCallS (As := [.int v0, .int v3]) (rest := [.int v2]) hC hT rfl k_X11_isFigure_178.1 _ k_X11_isFigure_178.2 (by rfl) (Nat.le_of_ble_eq_true rfl) (by decide) (J_X11_figure C.2.2.1 C.1 N v0 v3 S ew10) ?_
    refine aRun_ok hC hT 2 (cf' := (18, [(0, .int v0), (1, .int v1), (2, .int v2), (3, .int v3)], [.int v3, .int v1, .int w9, .int v2], LAY, S)) (by rfl) ?_
    obtain ⟨w11, ew12, hf⟩ := aBnE hf
    refine aCallS (As := [.int v1, .int v3]) (rest := [.int w9, .int v2]) hC hT rfl k_X11_isFigure_178.1 _ k_X11_isFigure_178.2 (by rfl) (Nat.le_of_ble_eq_true rfl) (by decide) (J_X11_figure C.2.2.1 C.1 N v1 v3 S ew12) ?_
    refine aCmp_ne hC hT (tgt := 28) rfl (by decide) (fun hc13 => ?_) (fun hc13 => ?_)
    · have hf := aIfF hf hc13
      refine aRun_ok hC hT 1 (cf' := (29, [(0, .int v0), (1, .int v1), (2, .int v2), (3, .int v3)], [.int (1 : Int32), .int v2], LAY, S)) (by rfl) ?_
      refine aLocs [0, 1, 3] (lv' := [(0, .int v0), (1, .int v1), (3, .int v3)]) rfl ?_
      exact X11_isFigure_b29_ok hC hF hrec4 v0 v1 v3 (1 : Int32) v2 hf
    · have hf := aIfT hf hc13
      refine aRun_ok hC hT 2 (cf' := (29, [(0, .int v0), (1, .int v1), (2, .int v2), (3, .int v3)], [.int (0 : Int32), .int v2], LAY, S)) (by rfl) ?_
      refine aLocs [0, 1, 3] (lv' := [(0, .int v0), (1, .int v1), (3, .int v3)]) rfl ?_
      exact X11_isFigure_b29_ok hC hF hrec4 v0 v1 v3 (0 : Int32) v2 hf
def X11_isFigure_l4 (N : Nat) : Nat → Int32 → Int32 → Int32 → Int32 → Option (Int32)
  | 0 => fun _ _ _ _ => none
  | n + 1 => X11_isFigure_b4 N (X11_isFigure_l4 N n)
theorem X11_isFigure_l4_ok {C : aC} {N : Nat} {S : aSt} (hC : aCx C M_X11_isFigure) {r : Int32} (hF : aFin C (some (.int r)) LAY S 0 0) : ∀ (n : Nat) (v0 : Int32) (v1 : Int32) (v2 : Int32) (v3 : Int32), X11_isFigure_l4 N n v0 v1 v2 v3 = (some r) → aX C M_X11_isFigure 0 0 (4, [(0, .int v0), (1, .int v1), (2, .int v2), (3, .int v3)], [], LAY, S)
  | 0, _, _, _, _,  h => nomatch (show (none : Option (Int32)) = some _ from h)
  | n + 1, v0, v1, v2, v3,  h => X11_isFigure_b4_ok hC hF (fun v0 v1 v2 v3 h => X11_isFigure_l4_ok hC hF n v0 v1 v2 v3 h) v0 v1 v2 v3 h
def X11_isFigure (N : Nat) (a0 : Int32) (a1 : Int32) : Option (Int32) := (X11_isFigure_l4 N N a0 a1 (0 : Int32) (0 : Int32))
set_option maxHeartbeats 4000000 in
set_option maxRecDepth 100000 in
theorem J_X11_isFigure (l : Launch) (g : aWg) (N : Nat) (a0 : Int32) (a1 : Int32) (S : aSt) {r : Int32} (hf : X11_isFigure N a0 a1 = (some r)) : aJ l g yX11_isFigure M_X11_isFigure [.int a0, .int a1] LAY S (some (.int r)) LAY S 0 0 := by
  refine aJ_of (by decide +kernel) rfl (Nat.le_of_ble_eq_true rfl) (fun h => nomatch h) ?_
  intro C hg hl hC hz hF
  subst hg; subst hl
  have hT := ok_X11_isFigure
  unfold X11_isFigure at hf
  show aX C M_X11_isFigure 0 0 (0, [(0, .int a0), (1, .int a1)], [], LAY, S)
  refine aRun_ok hC hT 4 (cf' := (4, [(3, .int (0 : Int32)), (2, .int (0 : Int32)), (0, .int a0), (1, .int a1)], [], LAY, S)) (by rfl) ?_
  refine aLocs [2, 3, 1, 0] (lv' := [(0, .int a0), (1, .int a1), (2, .int (0 : Int32)), (3, .int (0 : Int32))]) rfl ?_
  exact X11_isFigure_l4_ok hC hF N a0 a1 (0 : Int32) (0 : Int32) hf
def X11_isTurned_b39 (N : Nat) (v1 : Int32) (v2 : Int32) : Option (Int32) := (if v2 = (0 : Int32) then some ((0 : Int32)) else (if v1 ≤ (0 : Int32) then some ((0 : Int32)) else some ((1 : Int32))))
set_option maxHeartbeats 4000000 in
set_option maxRecDepth 100000 in
theorem X11_isTurned_b39_ok {C : aC} {N : Nat} {S : aSt} (hC : aCx C M_X11_isTurned) {r : Int32} (hF : aFin C (some (.int r)) LAY S 0 0) (v1 : Int32) (v2 : Int32) (hf : X11_isTurned_b39 N v1 v2 = (some r)) : aX C M_X11_isTurned 0 0 (39, [(1, .int v1), (2, .int v2)], [], LAY, S) := by
  have hT := ok_X11_isTurned
  unfold X11_isTurned_b39 at hf
  refine aRun_ok hC hT 1 (cf' := (40, [(1, .int v1), (2, .int v2)], [.int v2], LAY, S)) (by rfl) ?_
  refine aIf_eq hC hT (tgt := 51) rfl (by decide) (fun hc4 => ?_) (fun hc4 => ?_)
  · have hf := aIfT hf hc4
    refine aRun_ok hC hT 1 (cf' := (52, [(1, .int v1), (2, .int v2)], [.int (0 : Int32)], LAY, S)) (by rfl) ?_
    have e9 := Option.some.inj hf; subst e9
    exact aRetB hC hT hF rfl (Or.inl rfl) rfl
  · have hf := aIfF hf hc4
    refine aRun_ok hC hT 1 (cf' := (44, [(1, .int v1), (2, .int v2)], [.int v1], LAY, S)) (by rfl) ?_
    refine aIf_le hC hT (tgt := 51) rfl (by decide) (fun hc5 => ?_) (fun hc5 => ?_)
    · have hf := aIfT hf hc5
      refine aRun_ok hC hT 1 (cf' := (52, [(1, .int v1), (2, .int v2)], [.int (0 : Int32)], LAY, S)) (by rfl) ?_
      have e9 := Option.some.inj hf; subst e9
      exact aRetB hC hT hF rfl (Or.inl rfl) rfl
    · have hf := aIfF hf hc5
      refine aRun_ok hC hT 2 (cf' := (52, [(1, .int v1), (2, .int v2)], [.int (1 : Int32)], LAY, S)) (by rfl) ?_
      have e9 := Option.some.inj hf; subst e9
      exact aRetB hC hT hF rfl (Or.inr rfl) rfl
def X11_isTurned_b32 (N : Nat) (rec4 : Int32 → Int32 → Int32 → Int32 → Option (Int32)) (v0 : Int32) (v1 : Int32) (v3 : Int32) (s0 : Int32) : Option (Int32) := (rec4 v0 v1 s0 (v3 + (1 : Int32)))
set_option maxHeartbeats 4000000 in
set_option maxRecDepth 100000 in
theorem X11_isTurned_b32_ok {C : aC} {N : Nat} {S : aSt} {rec4 : Int32 → Int32 → Int32 → Int32 → Option (Int32)} (hC : aCx C M_X11_isTurned) {r : Int32} (hF : aFin C (some (.int r)) LAY S 0 0) (hrec4 : ∀ (v0 : Int32) (v1 : Int32) (v2 : Int32) (v3 : Int32), rec4 v0 v1 v2 v3 = (some r) → aX C M_X11_isTurned 0 0 (4, [(0, .int v0), (1, .int v1), (2, .int v2), (3, .int v3)], [], LAY, S)) (v0 : Int32) (v1 : Int32) (v3 : Int32) (s0 : Int32) (hf : X11_isTurned_b32 N rec4 v0 v1 v3 s0 = (some r)) : aX C M_X11_isTurned 0 0 (32, [(0, .int v0), (1, .int v1), (3, .int v3)], [.int s0], LAY, S) := by
  have hT := ok_X11_isTurned
  unfold X11_isTurned_b32 at hf
  refine aRun_ok hC hT 3 (cf' := (4, [(3, .int (v3 + (1 : Int32))), (2, .int s0), (0, .int v0), (1, .int v1)], [], LAY, S)) (by rfl) ?_
  refine aLocs [2, 3, 1, 0] (lv' := [(0, .int v0), (1, .int v1), (2, .int s0), (3, .int (v3 + (1 : Int32)))]) rfl ?_
  exact hrec4 v0 v1 s0 (v3 + (1 : Int32)) hf
def X11_isTurned_b27 (N : Nat) (rec4 : Int32 → Int32 → Int32 → Int32 → Option (Int32)) (v0 : Int32) (v1 : Int32) (v3 : Int32) : Option (Int32) := (X11_isTurned_b32 N rec4 v0 v1 v3 (1 : Int32))
set_option maxHeartbeats 4000000 in
set_option maxRecDepth 100000 in
theorem X11_isTurned_b27_ok {C : aC} {N : Nat} {S : aSt} {rec4 : Int32 → Int32 → Int32 → Int32 → Option (Int32)} (hC : aCx C M_X11_isTurned) {r : Int32} (hF : aFin C (some (.int r)) LAY S 0 0) (hrec4 : ∀ (v0 : Int32) (v1 : Int32) (v2 : Int32) (v3 : Int32), rec4 v0 v1 v2 v3 = (some r) → aX C M_X11_isTurned 0 0 (4, [(0, .int v0), (1, .int v1), (2, .int v2), (3, .int v3)], [], LAY, S)) (v0 : Int32) (v1 : Int32) (v3 : Int32) (hf : X11_isTurned_b27 N rec4 v0 v1 v3 = (some r)) : aX C M_X11_isTurned 0 0 (27, [(0, .int v0), (1, .int v1), (3, .int v3)], [], LAY, S) := by
  have hT := ok_X11_isTurned
  unfold X11_isTurned_b27 at hf
  refine aRun_ok hC hT 2 (cf' := (32, [(0, .int v0), (1, .int v1), (3, .int v3)], [.int (1 : Int32)], LAY, S)) (by rfl) ?_
  exact X11_isTurned_b32_ok hC hF hrec4 v0 v1 v3 (1 : Int32) hf
def X11_isTurned_b4 (N : Nat) (rec4 : Int32 → Int32 → Int32 → Int32 → Option (Int32)) (v0 : Int32) (v1 : Int32) (v2 : Int32) (v3 : Int32) : Option (Int32) := (Option.bind (X11_figures N v0) (fun w1 => (if w1 ≤ (v3 + (1 : Int32)) then (X11_isTurned_b39 N v1 v2) else (if v2 = (0 : Int32) then (Option.bind (X11_turned N v0 v3) (fun w7 => (if w7 = v1 then (X11_isTurned_b27 N rec4 v0 v1 v3) else (X11_isTurned_b32 N rec4 v0 v1 v3 (0 : Int32))))) else (X11_isTurned_b27 N rec4 v0 v1 v3)))))
set_option maxHeartbeats 4000000 in
set_option maxRecDepth 100000 in
theorem X11_isTurned_b4_ok {C : aC} {N : Nat} {S : aSt} {rec4 : Int32 → Int32 → Int32 → Int32 → Option (Int32)} (hC : aCx C M_X11_isTurned) {r : Int32} (hF : aFin C (some (.int r)) LAY S 0 0) (hrec4 : ∀ (v0 : Int32) (v1 : Int32) (v2 : Int32) (v3 : Int32), rec4 v0 v1 v2 v3 = (some r) → aX C M_X11_isTurned 0 0 (4, [(0, .int v0), (1, .int v1), (2, .int v2), (3, .int v3)], [], LAY, S)) (v0 : Int32) (v1 : Int32) (v2 : Int32) (v3 : Int32) (hf : X11_isTurned_b4 N rec4 v0 v1 v2 v3 = (some r)) : aX C M_X11_isTurned 0 0 (4, [(0, .int v0), (1, .int v1), (2, .int v2), (3, .int v3)], [], LAY, S) := by
  have hT := ok_X11_isTurned
  unfold X11_isTurned_b4 at hf
  refine aRun_ok hC hT 4 (cf' := (8, [(0, .int v0), (1, .int v1), (2, .int v2), (3, .int v3)], [.int v0, .int (v3 + (1 : Int32))], LAY, S)) (by rfl) ?_
  obtain ⟨w1, ew2, hf⟩ := aBnE hf
  refine aCallS (As := [.int v0]) (rest := [.int (v3 + (1 : Int32))]) hC hT rfl k_X11_isTurned_182.1 _ k_X11_isTurned_182.2 (by rfl) (Nat.le_of_ble_eq_true rfl) (by decide) (J_X11_figures C.2.2.1 C.1 N v0 S ew2) ?_
  refine aCmp_ge hC hT (tgt := 39) rfl (by decide) (fun hc3 => ?_) (fun hc3 => ?_)
  · have hf := aIfT hf hc3
    refine aLocs [1, 2] (lv' := [(1, .int v1), (2, .int v2)]) rfl ?_
    exact X11_isTurned_b39_ok hC hF v1 v2 hf
  · have hf := aIfF hf hc3
    refine aRun_ok hC hT 1 (cf' := (15, [(0, .int v0), (1, .int v1), (2, .int v2), (3, .int v3)], [.int v2], LAY, S)) (by rfl) ?_
    refine aIf_ne hC hT (tgt := 27) rfl (by decide) (fun hc6 => ?_) (fun hc6 => ?_)
    · have hf := aIfF hf hc6
      refine aLocs [0, 1, 3] (lv' := [(0, .int v0), (1, .int v1), (3, .int v3)]) rfl ?_
      exact X11_isTurned_b27_ok hC hF hrec4 v0 v1 v3 hf
    · have hf := aIfT hf hc6
      refine aRun_ok hC hT 2 (cf' := (20, [(0, .int v0), (1, .int v1), (2, .int v2), (3, .int v3)], [.int v3, .int v0], LAY, S)) (by rfl) ?_
      obtain ⟨w7, ew8, hf⟩ := aBnE hf
      refine aCallS (As := [.int v0, .int v3]) (rest := []) hC hT rfl k_X11_isTurned_195.1 _ k_X11_isTurned_195.2 (by rfl) (Nat.le_of_ble_eq_true rfl) (by decide) (J_X11_turned C.2.2.1 C.1 N v0 v3 S ew8) ?_
      refine aRun_ok hC hT 1 (cf' := (24, [(0, .int v0), (1, .int v1), (2, .int v2), (3, .int v3)], [.int v1, .int w7], LAY, S)) (by rfl) ?_
      refine aCmp_ne hC hT (tgt := 31) rfl (by decide) (fun hc9 => ?_) (fun hc9 => ?_)
      · have hf := aIfF hf hc9
        refine aRun_ok hC hT 1 (cf' := (32, [(0, .int v0), (1, .int v1), (2, .int v2), (3, .int v3)], [.int (0 : Int32)], LAY, S)) (by rfl) ?_
        refine aLocs [0, 1, 3] (lv' := [(0, .int v0), (1, .int v1), (3, .int v3)]) rfl ?_
        exact X11_isTurned_b32_ok hC hF hrec4 v0 v1 v3 (0 : Int32) hf
      · have hf := aIfT hf hc9
        refine aLocs [0, 1, 3] (lv' := [(0, .int v0), (1, .int v1), (3, .int v3)]) rfl ?_
        exact X11_isTurned_b27_ok hC hF hrec4 v0 v1 v3 hf
def X11_isTurned_l4 (N : Nat) : Nat → Int32 → Int32 → Int32 → Int32 → Option (Int32)
  | 0 => fun _ _ _ _ => none
  | n + 1 => X11_isTurned_b4 N (X11_isTurned_l4 N n)
theorem X11_isTurned_l4_ok {C : aC} {N : Nat} {S : aSt} (hC : aCx C M_X11_isTurned) {r : Int32} (hF : aFin C (some (.int r)) LAY S 0 0) : ∀ (n : Nat) (v0 : Int32) (v1 : Int32) (v2 : Int32) (v3 : Int32), X11_isTurned_l4 N n v0 v1 v2 v3 = (some r) → aX C M_X11_isTurned 0 0 (4, [(0, .int v0), (1, .int v1), (2, .int v2), (3, .int v3)], [], LAY, S)
  | 0, _, _, _, _,  h => nomatch (show (none : Option (Int32)) = some _ from h)
  | n + 1, v0, v1, v2, v3,  h => X11_isTurned_b4_ok hC hF (fun v0 v1 v2 v3 h => X11_isTurned_l4_ok hC hF n v0 v1 v2 v3 h) v0 v1 v2 v3 h
def X11_isTurned (N : Nat) (a0 : Int32) (a1 : Int32) : Option (Int32) := (X11_isTurned_l4 N N a0 a1 (0 : Int32) (0 : Int32))
set_option maxHeartbeats 4000000 in
set_option maxRecDepth 100000 in
theorem J_X11_isTurned (l : Launch) (g : aWg) (N : Nat) (a0 : Int32) (a1 : Int32) (S : aSt) {r : Int32} (hf : X11_isTurned N a0 a1 = (some r)) : aJ l g yX11_isTurned M_X11_isTurned [.int a0, .int a1] LAY S (some (.int r)) LAY S 0 0 := by
  refine aJ_of (by decide +kernel) rfl (Nat.le_of_ble_eq_true rfl) (fun h => nomatch h) ?_
  intro C hg hl hC hz hF
  subst hg; subst hl
  have hT := ok_X11_isTurned
  unfold X11_isTurned at hf
  show aX C M_X11_isTurned 0 0 (0, [(0, .int a0), (1, .int a1)], [], LAY, S)
  refine aRun_ok hC hT 4 (cf' := (4, [(3, .int (0 : Int32)), (2, .int (0 : Int32)), (0, .int a0), (1, .int a1)], [], LAY, S)) (by rfl) ?_
  refine aLocs [2, 3, 1, 0] (lv' := [(0, .int a0), (1, .int a1), (2, .int (0 : Int32)), (3, .int (0 : Int32))]) rfl ?_
  exact X11_isTurned_l4_ok hC hF N a0 a1 (0 : Int32) (0 : Int32) hf
def X11_judge_42_b153 (N : Nat) (S : aSt) (v3 : Int32) (v4 : Int32) (v5 : Int32) : Option (Int32) := (if v5 = (0 : Int32) then (if v4 = v3 then some ((3 : Int32)) else some (((-1) : Int32))) else some (((-1) : Int32)))
set_option maxHeartbeats 4000000 in
set_option maxRecDepth 100000 in
theorem X11_judge_42_b153_ok {C : aC} {N : Nat} {S : aSt} (hC : aCx C M_X11_judge) {r : Int32} (hF : aFin C (some (.int r)) LAY S 0 0) (v3 : Int32) (v4 : Int32) (v5 : Int32) (hf : X11_judge_42_b153 N S v3 v4 v5 = (some r)) : aX C M_X11_judge 0 0 (153, [(3, .int v3), (4, .int v4), (5, .int v5)], [], LAY, S) := by
  have hT := ok_X11_judge
  unfold X11_judge_42_b153 at hf
  refine aRun_ok hC hT 1 (cf' := (155, [(3, .int v3), (4, .int v4), (5, .int v5)], [.int v5], LAY, S)) (by rfl) ?_
  refine aIf_ne hC hT (tgt := 168) rfl (by decide) (fun hc17 => ?_) (fun hc17 => ?_)
  · have hf := aIfF hf hc17
    refine aRun_ok hC hT 1 (cf' := (169, [(3, .int v3), (4, .int v4), (5, .int v5)], [.int ((-1) : Int32)], LAY, S)) (by rfl) ?_
    have e9 := Option.some.inj hf; subst e9
    exact aRetI hC hT hF rfl rfl
  · have hf := aIfT hf hc17
    refine aRun_ok hC hT 2 (cf' := (161, [(3, .int v3), (4, .int v4), (5, .int v5)], [.int v3, .int v4], LAY, S)) (by rfl) ?_
    refine aCmp_ne hC hT (tgt := 168) rfl (by decide) (fun hc18 => ?_) (fun hc18 => ?_)
    · have hf := aIfF hf hc18
      refine aRun_ok hC hT 1 (cf' := (169, [(3, .int v3), (4, .int v4), (5, .int v5)], [.int ((-1) : Int32)], LAY, S)) (by rfl) ?_
      have e9 := Option.some.inj hf; subst e9
      exact aRetI hC hT hF rfl rfl
    · have hf := aIfT hf hc18
      refine aRun_ok hC hT 2 (cf' := (169, [(3, .int v3), (4, .int v4), (5, .int v5)], [.int (3 : Int32)], LAY, S)) (by rfl) ?_
      have e9 := Option.some.inj hf; subst e9
      exact aRetI hC hT hF rfl rfl
def X11_judge_42_b126 (N : Nat) (S : aSt) (v3 : Int32) (v4 : Int32) (v5 : Int32) : Option (Int32) := (if v5 = (0 : Int32) then (X11_judge_42_b153 N S v3 v4 v5) else (if ((10 : Int32) * v4) = v3 then some ((2 : Int32)) else (if ((10 : Int32) * v3) = v4 then some ((2 : Int32)) else (X11_judge_42_b153 N S v3 v4 v5))))
set_option maxHeartbeats 4000000 in
set_option maxRecDepth 100000 in
theorem X11_judge_42_b126_ok {C : aC} {N : Nat} {S : aSt} (hC : aCx C M_X11_judge) {r : Int32} (hF : aFin C (some (.int r)) LAY S 0 0) (v3 : Int32) (v4 : Int32) (v5 : Int32) (hf : X11_judge_42_b126 N S v3 v4 v5 = (some r)) : aX C M_X11_judge 0 0 (126, [(3, .int v3), (4, .int v4), (5, .int v5)], [], LAY, S) := by
  have hT := ok_X11_judge
  unfold X11_judge_42_b126 at hf
  refine aRun_ok hC hT 1 (cf' := (128, [(3, .int v3), (4, .int v4), (5, .int v5)], [.int v5], LAY, S)) (by rfl) ?_
  refine aIf_eq hC hT (tgt := 153) rfl (by decide) (fun hc16 => ?_) (fun hc16 => ?_)
  · have hf := aIfT hf hc16
    exact X11_judge_42_b153_ok hC hF v3 v4 v5 hf
  · have hf := aIfF hf hc16
    refine aRun_ok hC hT 4 (cf' := (137, [(3, .int v3), (4, .int v4), (5, .int v5)], [.int v3, .int ((10 : Int32) * v4)], LAY, S)) (by rfl) ?_
    refine aCmp_eq hC hT (tgt := 149) rfl (by decide) (fun hc19 => ?_) (fun hc19 => ?_)
    · have hf := aIfT hf hc19
      refine aRun_ok hC hT 2 (cf' := (169, [(3, .int v3), (4, .int v4), (5, .int v5)], [.int (2 : Int32)], LAY, S)) (by rfl) ?_
      have e9 := Option.some.inj hf; subst e9
      exact aRetI hC hT hF rfl rfl
    · have hf := aIfF hf hc19
      refine aRun_ok hC hT 4 (cf' := (146, [(3, .int v3), (4, .int v4), (5, .int v5)], [.int v4, .int ((10 : Int32) * v3)], LAY, S)) (by rfl) ?_
      refine aCmp_ne hC hT (tgt := 153) rfl (by decide) (fun hc20 => ?_) (fun hc20 => ?_)
      · have hf := aIfF hf hc20
        exact X11_judge_42_b153_ok hC hF v3 v4 v5 hf
      · have hf := aIfT hf hc20
        refine aRun_ok hC hT 2 (cf' := (169, [(3, .int v3), (4, .int v4), (5, .int v5)], [.int (2 : Int32)], LAY, S)) (by rfl) ?_
        have e9 := Option.some.inj hf; subst e9
        exact aRetI hC hT hF rfl rfl
def X11_judge_42_b108 (N : Nat) (S : aSt) (v3 : Int32) (v4 : Int32) (v5 : Int32) : Option (Int32) := (if v5 = (0 : Int32) then (X11_judge_42_b126 N S v3 v4 v5) else (Option.bind (X11_isFigure N v4 v3) (fun w21 => (if w21 = (0 : Int32) then (X11_judge_42_b126 N S v3 v4 v5) else some ((1 : Int32))))))
set_option maxHeartbeats 4000000 in
set_option maxRecDepth 100000 in
theorem X11_judge_42_b108_ok {C : aC} {N : Nat} {S : aSt} (hC : aCx C M_X11_judge) {r : Int32} (hF : aFin C (some (.int r)) LAY S 0 0) (v3 : Int32) (v4 : Int32) (v5 : Int32) (hf : X11_judge_42_b108 N S v3 v4 v5 = (some r)) : aX C M_X11_judge 0 0 (108, [(3, .int v3), (4, .int v4), (5, .int v5)], [], LAY, S) := by
  have hT := ok_X11_judge
  unfold X11_judge_42_b108 at hf
  refine aRun_ok hC hT 1 (cf' := (110, [(3, .int v3), (4, .int v4), (5, .int v5)], [.int v5], LAY, S)) (by rfl) ?_
  refine aIf_eq hC hT (tgt := 126) rfl (by decide) (fun hc15 => ?_) (fun hc15 => ?_)
  · have hf := aIfT hf hc15
    exact X11_judge_42_b126_ok hC hF v3 v4 v5 hf
  · have hf := aIfF hf hc15
    refine aRun_ok hC hT 2 (cf' := (116, [(3, .int v3), (4, .int v4), (5, .int v5)], [.int v3, .int v4], LAY, S)) (by rfl) ?_
    obtain ⟨w21, ew22, hf⟩ := aBnE hf
    refine aCallS (As := [.int v4, .int v3]) (rest := []) hC hT rfl k_X11_judge_288.1 _ k_X11_judge_288.2 (by rfl) (Nat.le_of_ble_eq_true rfl) (by decide) (J_X11_isFigure C.2.2.1 C.1 N v4 v3 S ew22) ?_
    refine aIf_eq hC hT (tgt := 126) rfl (by decide) (fun hc23 => ?_) (fun hc23 => ?_)
    · have hf := aIfT hf hc23
      exact X11_judge_42_b126_ok hC hF v3 v4 v5 hf
    · have hf := aIfF hf hc23
      refine aRun_ok hC hT 2 (cf' := (169, [(3, .int v3), (4, .int v4), (5, .int v5)], [.int (1 : Int32)], LAY, S)) (by rfl) ?_
      have e9 := Option.some.inj hf; subst e9
      exact aRetI hC hT hF rfl rfl
def X11_judge_42_b65 (N : Nat) (S : aSt) (v1 : Int32) (v3 : Int32) (v4 : Int32) (s0 : Int32) : Option (Int32) := (if v3 = (0 : Int32) then (if s0 = (0 : Int32) then some (((-1) : Int32)) else (Option.bind (X11_isTwice_42 N v1 S) (fun w28 => (if w28 = (0 : Int32) then some (((-1) : Int32)) else some ((4 : Int32)))))) else (if s0 = (0 : Int32) then (X11_judge_42_b108 N S v3 v4 s0) else (Option.bind (X11_isTurned N v4 v3) (fun w24 => (if w24 = (0 : Int32) then (X11_judge_42_b108 N S v3 v4 s0) else some ((0 : Int32)))))))
set_option maxHeartbeats 4000000 in
set_option maxRecDepth 100000 in
theorem X11_judge_42_b65_ok {C : aC} {N : Nat} {S : aSt} (hC : aCx C M_X11_judge) {r : Int32} (hF : aFin C (some (.int r)) LAY S 0 0) (v1 : Int32) (v3 : Int32) (v4 : Int32) (s0 : Int32) (hf : X11_judge_42_b65 N S v1 v3 v4 s0 = (some r)) : aX C M_X11_judge 0 0 (65, [(0, .ref 42), (1, .int v1), (3, .int v3), (4, .int v4)], [.int s0], LAY, S) := by
  have hT := ok_X11_judge
  unfold X11_judge_42_b65 at hf
  refine aRun_ok hC hT 2 (cf' := (68, [(5, .int s0), (0, .ref 42), (1, .int v1), (3, .int v3), (4, .int v4)], [.int v3], LAY, S)) (by rfl) ?_
  refine aIf_ne hC hT (tgt := 90) rfl (by decide) (fun hc13 => ?_) (fun hc13 => ?_)
  · have hf := aIfF hf hc13
    refine aRun_ok hC hT 1 (cf' := (92, [(5, .int s0), (0, .ref 42), (1, .int v1), (3, .int v3), (4, .int v4)], [.int s0], LAY, S)) (by rfl) ?_
    refine aIf_eq hC hT (tgt := 108) rfl (by decide) (fun hc14 => ?_) (fun hc14 => ?_)
    · have hf := aIfT hf hc14
      refine aLocs [3, 4, 0] (lv' := [(3, .int v3), (4, .int v4), (5, .int s0)]) rfl ?_
      exact X11_judge_42_b108_ok hC hF v3 v4 s0 hf
    · have hf := aIfF hf hc14
      refine aRun_ok hC hT 2 (cf' := (98, [(5, .int s0), (0, .ref 42), (1, .int v1), (3, .int v3), (4, .int v4)], [.int v3, .int v4], LAY, S)) (by rfl) ?_
      obtain ⟨w24, ew25, hf⟩ := aBnE hf
      refine aCallS (As := [.int v4, .int v3]) (rest := []) hC hT rfl k_X11_judge_285.1 _ k_X11_judge_285.2 (by rfl) (Nat.le_of_ble_eq_true rfl) (by decide) (J_X11_isTurned C.2.2.1 C.1 N v4 v3 S ew25) ?_
      refine aIf_eq hC hT (tgt := 108) rfl (by decide) (fun hc26 => ?_) (fun hc26 => ?_)
      · have hf := aIfT hf hc26
        refine aLocs [3, 4, 0] (lv' := [(3, .int v3), (4, .int v4), (5, .int s0)]) rfl ?_
        exact X11_judge_42_b108_ok hC hF v3 v4 s0 hf
      · have hf := aIfF hf hc26
        refine aRun_ok hC hT 2 (cf' := (169, [(5, .int s0), (0, .ref 42), (1, .int v1), (3, .int v3), (4, .int v4)], [.int (0 : Int32)], LAY, S)) (by rfl) ?_
        have e9 := Option.some.inj hf; subst e9
        exact aRetI hC hT hF rfl rfl
  · have hf := aIfT hf hc13
    refine aRun_ok hC hT 1 (cf' := (73, [(5, .int s0), (0, .ref 42), (1, .int v1), (3, .int v3), (4, .int v4)], [.int s0], LAY, S)) (by rfl) ?_
    refine aIf_eq hC hT (tgt := 88) rfl (by decide) (fun hc27 => ?_) (fun hc27 => ?_)
    · have hf := aIfT hf hc27
      refine aRun_ok hC hT 1 (cf' := (89, [(5, .int s0), (0, .ref 42), (1, .int v1), (3, .int v3), (4, .int v4)], [.int ((-1) : Int32)], LAY, S)) (by rfl) ?_
      have e9 := Option.some.inj hf; subst e9
      exact aRetI hC hT hF rfl rfl
    · have hf := aIfF hf hc27
      refine aRun_ok hC hT 2 (cf' := (78, [(5, .int s0), (0, .ref 42), (1, .int v1), (3, .int v3), (4, .int v4)], [.int v1, .ref 42], LAY, S)) (by rfl) ?_
      obtain ⟨w28, ew29, hf⟩ := aBnE hf
      refine aCallV (b := 42) (As := [.int v1]) (rest := []) hC hT rfl k_X11_judge_201.1 _ _ k_X11_judge_201.2 (by decide) (by rfl) (by rfl) (by rfl) (Nat.le_of_ble_eq_true rfl) (by decide) (J_X11_isTwice_42 C.2.2.1 C.1 N v1 S ew29) ?_
      refine aIf_eq hC hT (tgt := 88) rfl (by decide) (fun hc30 => ?_) (fun hc30 => ?_)
      · have hf := aIfT hf hc30
        refine aRun_ok hC hT 1 (cf' := (89, [(5, .int s0), (0, .ref 42), (1, .int v1), (3, .int v3), (4, .int v4)], [.int ((-1) : Int32)], LAY, S)) (by rfl) ?_
        have e9 := Option.some.inj hf; subst e9
        exact aRetI hC hT hF rfl rfl
      · have hf := aIfF hf hc30
        refine aRun_ok hC hT 2 (cf' := (89, [(5, .int s0), (0, .ref 42), (1, .int v1), (3, .int v3), (4, .int v4)], [.int (4 : Int32)], LAY, S)) (by rfl) ?_
        have e9 := Option.some.inj hf; subst e9
        exact aRetI hC hT hF rfl rfl
def X11_judge_42 (N : Nat) (a1 : Int32) (a2 : Int32) (a3 : Int32) (S : aSt) : Option (Int32) := (Option.bind (X11_isEntry_42 N a1 S) (fun w1 => (if w1 = (0 : Int32) then some (((-2) : Int32)) else (aLet (X11_in (a2.toInt64) (0 : Int64) (1 : Int64)) (fun w4 => (if w4 = (0 : Int32) then some (((-3) : Int32)) else (aLet (X11_in (a3.toInt64) (0 : Int64) (999999 : Int64)) (fun w7 => (if w7 = (0 : Int32) then some (((-3) : Int32)) else (if aIx (((5 : Int32) * a1) + (1 : Int32)) 150 = true then (if aIx ((5 : Int32) * a1) 150 = true then (if ((S.2.2 45) ((5 : Int32) * a1).toNatClampNeg) = a2 then (X11_judge_42_b65 N S a1 a3 ((S.2.2 45) (((5 : Int32) * a1) + (1 : Int32)).toNatClampNeg) (1 : Int32)) else (X11_judge_42_b65 N S a1 a3 ((S.2.2 45) (((5 : Int32) * a1) + (1 : Int32)).toNatClampNeg) (0 : Int32))) else none) else none))))))))))
set_option maxHeartbeats 4000000 in
set_option maxRecDepth 100000 in
theorem J_X11_judge_42 (l : Launch) (g : aWg) (N : Nat) (a1 : Int32) (a2 : Int32) (a3 : Int32) (S : aSt) {r : Int32} (hf : X11_judge_42 N a1 a2 a3 S = (some r)) : aJ l g yX11_judge M_X11_judge [.ref 42, .int a1, .int a2, .int a3] LAY S (some (.int r)) LAY S 0 0 := by
  refine aJ_of (by decide +kernel) rfl (Nat.le_of_ble_eq_true rfl) (fun h => nomatch h) ?_
  intro C hg hl hC hz hF
  subst hg; subst hl
  have hT := ok_X11_judge
  unfold X11_judge_42 at hf
  show aX C M_X11_judge 0 0 (0, [(0, .ref 42), (1, .int a1), (2, .int a2), (3, .int a3)], [], LAY, S)
  refine aRun_ok hC hT 2 (cf' := (2, [(0, .ref 42), (1, .int a1), (2, .int a2), (3, .int a3)], [.int a1, .ref 42], LAY, S)) (by rfl) ?_
  obtain ⟨w1, ew2, hf⟩ := aBnE hf
  refine aCallV (b := 42) (As := [.int a1]) (rest := []) hC hT rfl k_X11_judge_146.1 _ _ k_X11_judge_146.2 (by decide) (by rfl) (by rfl) (by rfl) (Nat.le_of_ble_eq_true rfl) (by decide) (J_X11_isEntry_42 C.2.2.1 C.1 N a1 S ew2) ?_
  refine aIf_ne hC hT (tgt := 11) rfl (by decide) (fun hc3 => ?_) (fun hc3 => ?_)
  · have hf := aIfF hf hc3
    refine aRun_ok hC hT 4 (cf' := (15, [(0, .ref 42), (1, .int a1), (2, .int a2), (3, .int a3)], [.long (1 : Int64), .long (0 : Int64), .long (a2.toInt64)], LAY, S)) (by rfl) ?_
    obtain ⟨w4, ew5, hf⟩ := aLetE hf
    refine aCallS (As := [.long (a2.toInt64), .long (0 : Int64), .long (1 : Int64)]) (rest := []) hC hT rfl k_X11_judge_70.1 _ k_X11_judge_70.2 (by rfl) (Nat.le_of_ble_eq_true rfl) (by decide) (J_X11_in C.2.2.1 C.1 (a2.toInt64) (0 : Int64) (1 : Int64) S ew5) ?_
    refine aIf_eq hC hT (tgt := 33) rfl (by decide) (fun hc6 => ?_) (fun hc6 => ?_)
    · have hf := aIfT hf hc6
      refine aRun_ok hC hT 1 (cf' := (35, [(0, .ref 42), (1, .int a1), (2, .int a2), (3, .int a3)], [.int ((-3) : Int32)], LAY, S)) (by rfl) ?_
      have e9 := Option.some.inj hf; subst e9
      exact aRetI hC hT hF rfl rfl
    · have hf := aIfF hf hc6
      refine aRun_ok hC hT 4 (cf' := (27, [(0, .ref 42), (1, .int a1), (2, .int a2), (3, .int a3)], [.long (999999 : Int64), .long (0 : Int64), .long (a3.toInt64)], LAY, S)) (by rfl) ?_
      obtain ⟨w7, ew8, hf⟩ := aLetE hf
      refine aCallS (As := [.long (a3.toInt64), .long (0 : Int64), .long (999999 : Int64)]) (rest := []) hC hT rfl k_X11_judge_70.1 _ k_X11_judge_70.2 (by rfl) (Nat.le_of_ble_eq_true rfl) (by decide) (J_X11_in C.2.2.1 C.1 (a3.toInt64) (0 : Int64) (999999 : Int64) S ew8) ?_
      refine aIf_ne hC hT (tgt := 36) rfl (by decide) (fun hc9 => ?_) (fun hc9 => ?_)
      · have hf := aIfF hf hc9
        refine aRun_ok hC hT 7 (cf' := (45, [(0, .ref 42), (1, .int a1), (2, .int a2), (3, .int a3)], [.int (((5 : Int32) * a1) + (1 : Int32)), .ref 45], LAY, S)) (by rfl) ?_
        obtain ⟨hin10, hf⟩ := aGdE hf
        refine aIald hC hT rfl (by decide) (by rfl) hin10 ?_
        refine aRun_ok hC hT 6 (cf' := (55, [(4, .int ((S.2.2 45) (((5 : Int32) * a1) + (1 : Int32)).toNatClampNeg)), (0, .ref 42), (1, .int a1), (2, .int a2), (3, .int a3)], [.int ((5 : Int32) * a1), .ref 45], LAY, S)) (by rfl) ?_
        obtain ⟨hin11, hf⟩ := aGdE hf
        refine aIald hC hT rfl (by decide) (by rfl) hin11 ?_
        refine aRun_ok hC hT 1 (cf' := (57, [(4, .int ((S.2.2 45) (((5 : Int32) * a1) + (1 : Int32)).toNatClampNeg)), (0, .ref 42), (1, .int a1), (2, .int a2), (3, .int a3)], [.int a2, .int ((S.2.2 45) ((5 : Int32) * a1).toNatClampNeg)], LAY, S)) (by rfl) ?_
        refine aCmp_ne hC hT (tgt := 64) rfl (by decide) (fun hc12 => ?_) (fun hc12 => ?_)
        · have hf := aIfF hf hc12
          refine aRun_ok hC hT 1 (cf' := (65, [(4, .int ((S.2.2 45) (((5 : Int32) * a1) + (1 : Int32)).toNatClampNeg)), (0, .ref 42), (1, .int a1), (2, .int a2), (3, .int a3)], [.int (0 : Int32)], LAY, S)) (by rfl) ?_
          refine aLocs [1, 2, 4, 0] (lv' := [(0, .ref 42), (1, .int a1), (3, .int a3), (4, .int ((S.2.2 45) (((5 : Int32) * a1) + (1 : Int32)).toNatClampNeg))]) rfl ?_
          exact X11_judge_42_b65_ok hC hF a1 a3 ((S.2.2 45) (((5 : Int32) * a1) + (1 : Int32)).toNatClampNeg) (0 : Int32) hf
        · have hf := aIfT hf hc12
          refine aRun_ok hC hT 2 (cf' := (65, [(4, .int ((S.2.2 45) (((5 : Int32) * a1) + (1 : Int32)).toNatClampNeg)), (0, .ref 42), (1, .int a1), (2, .int a2), (3, .int a3)], [.int (1 : Int32)], LAY, S)) (by rfl) ?_
          refine aLocs [1, 2, 4, 0] (lv' := [(0, .ref 42), (1, .int a1), (3, .int a3), (4, .int ((S.2.2 45) (((5 : Int32) * a1) + (1 : Int32)).toNatClampNeg))]) rfl ?_
          exact X11_judge_42_b65_ok hC hF a1 a3 ((S.2.2 45) (((5 : Int32) * a1) + (1 : Int32)).toNatClampNeg) (1 : Int32) hf
      · have hf := aIfT hf hc9
        refine aRun_ok hC hT 1 (cf' := (35, [(0, .ref 42), (1, .int a1), (2, .int a2), (3, .int a3)], [.int ((-3) : Int32)], LAY, S)) (by rfl) ?_
        have e9 := Option.some.inj hf; subst e9
        exact aRetI hC hT hF rfl rfl
  · have hf := aIfT hf hc3
    refine aRun_ok hC hT 1 (cf' := (10, [(0, .ref 42), (1, .int a1), (2, .int a2), (3, .int a3)], [.int ((-2) : Int32)], LAY, S)) (by rfl) ?_
    have e9 := Option.some.inj hf; subst e9
    exact aRetI hC hT hF rfl rfl
def X11_isHand (N : Nat) (a0 : Int32) : Option (Int32) := (aLet (X11_in (a0.toInt64) (0 : Int64) (3 : Int64)) (fun w1 => (if w1 = 0 ∨ w1 = 1 then some (w1) else none)))
set_option maxHeartbeats 4000000 in
set_option maxRecDepth 100000 in
theorem J_X11_isHand (l : Launch) (g : aWg) (N : Nat) (a0 : Int32) (S : aSt) {r : Int32} (hf : X11_isHand N a0 = (some r)) : aJ l g yX11_isHand M_X11_isHand [.int a0] LAY S (some (.int r)) LAY S 0 0 := by
  refine aJ_of (by decide +kernel) rfl (Nat.le_of_ble_eq_true rfl) (fun h => nomatch h) ?_
  intro C hg hl hC hz hF
  subst hg; subst hl
  have hT := ok_X11_isHand
  unfold X11_isHand at hf
  show aX C M_X11_isHand 0 0 (0, [(0, .int a0)], [], LAY, S)
  refine aRun_ok hC hT 4 (cf' := (6, [(0, .int a0)], [.long (3 : Int64), .long (0 : Int64), .long (a0.toInt64)], LAY, S)) (by rfl) ?_
  obtain ⟨w1, ew2, hf⟩ := aLetE hf
  refine aCallS (As := [.long (a0.toInt64), .long (0 : Int64), .long (3 : Int64)]) (rest := []) hC hT rfl k_X11_isHand_70.1 _ k_X11_isHand_70.2 (by rfl) (Nat.le_of_ble_eq_true rfl) (by decide) (J_X11_in C.2.2.1 C.1 (a0.toInt64) (0 : Int64) (3 : Int64) S ew2) ?_
  obtain ⟨hb3, hf⟩ := aGdE hf
  have e9 := Option.some.inj hf; subst e9
  exact aRetB hC hT hF rfl hb3 rfl
def X11_learn_42_b53 (N : Nat) (v1 : Int32) (v2 : Int32) (s0 : Int32) (s1 : Int32) (s2 : Int32) (S : aSt) : Option (Int32 × aSt) := (if aIx s2 20 = true then (if aIx (((5 : Int32) * v1) + v2) 20 = true then some ((((upd (S.2.2 47) s2.toNatClampNeg (s1 + s0)) (((5 : Int32) * v1) + v2).toNatClampNeg), (aA S 47 (upd (S.2.2 47) s2.toNatClampNeg (s1 + s0))))) else none) else none)
set_option maxHeartbeats 4000000 in
set_option maxRecDepth 100000 in
theorem X11_learn_42_b53_ok {C : aC} {N : Nat} (hC : aCx C M_X11_learn) {r : Int32 × aSt} (hF : aFin C (some (.int r.1)) LAY r.2 0 0) (v1 : Int32) (v2 : Int32) (s0 : Int32) (s1 : Int32) (s2 : Int32) (S : aSt) (hf : X11_learn_42_b53 N v1 v2 s0 s1 s2 S = (some r)) : aX C M_X11_learn 0 0 (53, [(0, .ref 42), (1, .int v1), (2, .int v2)], [.int s0, .int s1, .int s2, .ref 47], LAY, S) := by
  have hT := ok_X11_learn
  unfold X11_learn_42_b53 at hf
  refine aRun_ok hC hT 1 (cf' := (54, [(0, .ref 42), (1, .int v1), (2, .int v2)], [.int (s1 + s0), .int s2, .ref 47], LAY, S)) (by rfl) ?_
  obtain ⟨hin10, hf⟩ := aGdE hf
  refine aIast hC hT rfl (by decide) (by rfl) hin10 ?_
  refine aRun_ok hC hT 7 (cf' := (64, [(0, .ref 42), (1, .int v1), (2, .int v2)], [.int (((5 : Int32) * v1) + v2), .ref 47], LAY, (aA S 47 (upd (S.2.2 47) s2.toNatClampNeg (s1 + s0))))) (by rfl) ?_
  obtain ⟨hin11, hf⟩ := aGdE hf
  refine aIald hC hT rfl (by decide) (by rfl) hin11 ?_
  have e9 := Option.some.inj hf; subst e9
  exact aRetI hC hT hF rfl rfl
def X11_learn_42 (N : Nat) (a1 : Int32) (a2 : Int32) (S : aSt) : Option (Int32 × aSt) := (Option.bind (X11_isHand N a1) (fun w1 => (if w1 = (0 : Int32) then some ((((-2) : Int32), S)) else (aLet (X11_in (a2.toInt64) (0 : Int64) (4 : Int64)) (fun w4 => (if w4 = (0 : Int32) then some ((((-2) : Int32), S)) else (if aIx (((5 : Int32) * a1) + a2) 20 = true then (if aIx (((5 : Int32) * a1) + a2) 20 = true then (if (99 : Int32) ≤ ((S.2.2 47) (((5 : Int32) * a1) + a2).toNatClampNeg) then (X11_learn_42_b53 N a1 a2 (0 : Int32) ((S.2.2 47) (((5 : Int32) * a1) + a2).toNatClampNeg) (((5 : Int32) * a1) + a2) S) else (X11_learn_42_b53 N a1 a2 (1 : Int32) ((S.2.2 47) (((5 : Int32) * a1) + a2).toNatClampNeg) (((5 : Int32) * a1) + a2) S)) else none) else none)))))))
set_option maxHeartbeats 4000000 in
set_option maxRecDepth 100000 in
theorem J_X11_learn_42 (l : Launch) (g : aWg) (N : Nat) (a1 : Int32) (a2 : Int32) (S : aSt) {r : Int32 × aSt} (hf : X11_learn_42 N a1 a2 S = (some r)) : aJ l g yX11_learn M_X11_learn [.ref 42, .int a1, .int a2] LAY S (some (.int r.1)) LAY r.2 0 0 := by
  refine aJ_of (by decide +kernel) rfl (Nat.le_of_ble_eq_true rfl) (fun h => nomatch h) ?_
  intro C hg hl hC hz hF
  subst hg; subst hl
  have hT := ok_X11_learn
  unfold X11_learn_42 at hf
  show aX C M_X11_learn 0 0 (0, [(0, .ref 42), (1, .int a1), (2, .int a2)], [], LAY, S)
  refine aRun_ok hC hT 1 (cf' := (1, [(0, .ref 42), (1, .int a1), (2, .int a2)], [.int a1], LAY, S)) (by rfl) ?_
  obtain ⟨w1, ew2, hf⟩ := aBnE hf
  refine aCallS (As := [.int a1]) (rest := []) hC hT rfl k_X11_learn_167.1 _ k_X11_learn_167.2 (by rfl) (Nat.le_of_ble_eq_true rfl) (by decide) (J_X11_isHand C.2.2.1 C.1 N a1 S ew2) ?_
  refine aIf_eq hC hT (tgt := 19) rfl (by decide) (fun hc3 => ?_) (fun hc3 => ?_)
  · have hf := aIfT hf hc3
    refine aRun_ok hC hT 1 (cf' := (21, [(0, .ref 42), (1, .int a1), (2, .int a2)], [.int ((-2) : Int32)], LAY, S)) (by rfl) ?_
    have e9 := Option.some.inj hf; subst e9
    exact aRetI hC hT hF rfl rfl
  · have hf := aIfF hf hc3
    refine aRun_ok hC hT 4 (cf' := (13, [(0, .ref 42), (1, .int a1), (2, .int a2)], [.long (4 : Int64), .long (0 : Int64), .long (a2.toInt64)], LAY, S)) (by rfl) ?_
    obtain ⟨w4, ew5, hf⟩ := aLetE hf
    refine aCallS (As := [.long (a2.toInt64), .long (0 : Int64), .long (4 : Int64)]) (rest := []) hC hT rfl k_X11_learn_70.1 _ k_X11_learn_70.2 (by rfl) (Nat.le_of_ble_eq_true rfl) (by decide) (J_X11_in C.2.2.1 C.1 (a2.toInt64) (0 : Int64) (4 : Int64) S ew5) ?_
    refine aIf_ne hC hT (tgt := 22) rfl (by decide) (fun hc6 => ?_) (fun hc6 => ?_)
    · have hf := aIfF hf hc6
      refine aRun_ok hC hT 8 (cf' := (32, [(0, .ref 42), (1, .int a1), (2, .int a2)], [.int (((5 : Int32) * a1) + a2), .ref 47, .int (((5 : Int32) * a1) + a2), .ref 47], LAY, S)) (by rfl) ?_
      obtain ⟨hin7, hf⟩ := aGdE hf
      refine aIald hC hT rfl (by decide) (by rfl) hin7 ?_
      refine aRun_ok hC hT 7 (cf' := (42, [(0, .ref 42), (1, .int a1), (2, .int a2)], [.int (((5 : Int32) * a1) + a2), .ref 47, .int ((S.2.2 47) (((5 : Int32) * a1) + a2).toNatClampNeg), .int (((5 : Int32) * a1) + a2), .ref 47], LAY, S)) (by rfl) ?_
      obtain ⟨hin8, hf⟩ := aGdE hf
      refine aIald hC hT rfl (by decide) (by rfl) hin8 ?_
      refine aRun_ok hC hT 1 (cf' := (45, [(0, .ref 42), (1, .int a1), (2, .int a2)], [.int (99 : Int32), .int ((S.2.2 47) (((5 : Int32) * a1) + a2).toNatClampNeg), .int ((S.2.2 47) (((5 : Int32) * a1) + a2).toNatClampNeg), .int (((5 : Int32) * a1) + a2), .ref 47], LAY, S)) (by rfl) ?_
      refine aCmp_ge hC hT (tgt := 52) rfl (by decide) (fun hc9 => ?_) (fun hc9 => ?_)
      · have hf := aIfT hf hc9
        refine aRun_ok hC hT 1 (cf' := (53, [(0, .ref 42), (1, .int a1), (2, .int a2)], [.int (0 : Int32), .int ((S.2.2 47) (((5 : Int32) * a1) + a2).toNatClampNeg), .int (((5 : Int32) * a1) + a2), .ref 47], LAY, S)) (by rfl) ?_
        exact X11_learn_42_b53_ok hC hF a1 a2 (0 : Int32) ((S.2.2 47) (((5 : Int32) * a1) + a2).toNatClampNeg) (((5 : Int32) * a1) + a2) S hf
      · have hf := aIfF hf hc9
        refine aRun_ok hC hT 2 (cf' := (53, [(0, .ref 42), (1, .int a1), (2, .int a2)], [.int (1 : Int32), .int ((S.2.2 47) (((5 : Int32) * a1) + a2).toNatClampNeg), .int (((5 : Int32) * a1) + a2), .ref 47], LAY, S)) (by rfl) ?_
        exact X11_learn_42_b53_ok hC hF a1 a2 (1 : Int32) ((S.2.2 47) (((5 : Int32) * a1) + a2).toNatClampNeg) (((5 : Int32) * a1) + a2) S hf
    · have hf := aIfT hf hc6
      refine aRun_ok hC hT 1 (cf' := (21, [(0, .ref 42), (1, .int a1), (2, .int a2)], [.int ((-2) : Int32)], LAY, S)) (by rfl) ?_
      have e9 := Option.some.inj hf; subst e9
      exact aRetI hC hT hF rfl rfl
def X11_isAhead_42 (N : Nat) (a1 : Int32) (a2 : Int32) (S : aSt) : Option (Int32) := (if aIx a1 30 = true then (if aIx (((5 : Int32) * a2) + (1 : Int32)) 150 = true then (Option.bind (X11_figures N ((S.2.2 45) (((5 : Int32) * a2) + (1 : Int32)).toNatClampNeg)) (fun w3 => (if aIx a2 30 = true then (if aIx (((5 : Int32) * a1) + (1 : Int32)) 150 = true then (Option.bind (X11_figures N ((S.2.2 45) (((5 : Int32) * a1) + (1 : Int32)).toNatClampNeg)) (fun w7 => (if (0 : Int32) < (lg_cmp ((((S.2.2 56) a1.toNatClampNeg).toInt64) * (w3.toInt64)) ((((S.2.2 56) a2.toNatClampNeg).toInt64) * (w7.toInt64))) then some ((1 : Int32)) else (if (lg_cmp ((((S.2.2 56) a1.toNatClampNeg).toInt64) * (w3.toInt64)) ((((S.2.2 56) a2.toNatClampNeg).toInt64) * (w7.toInt64))) = (0 : Int32) then (if a2 ≤ a1 then some ((0 : Int32)) else some ((1 : Int32))) else some ((0 : Int32)))))) else none) else none))) else none) else none)
set_option maxHeartbeats 4000000 in
set_option maxRecDepth 100000 in
theorem J_X11_isAhead_42 (l : Launch) (g : aWg) (N : Nat) (a1 : Int32) (a2 : Int32) (S : aSt) {r : Int32} (hf : X11_isAhead_42 N a1 a2 S = (some r)) : aJ l g yX11_isAhead M_X11_isAhead [.ref 42, .int a1, .int a2] LAY S (some (.int r)) LAY S 0 0 := by
  refine aJ_of (by decide +kernel) rfl (Nat.le_of_ble_eq_true rfl) (fun h => nomatch h) ?_
  intro C hg hl hC hz hF
  subst hg; subst hl
  have hT := ok_X11_isAhead
  unfold X11_isAhead_42 at hf
  show aX C M_X11_isAhead 0 0 (0, [(0, .ref 42), (1, .int a1), (2, .int a2)], [], LAY, S)
  refine aRun_ok hC hT 3 (cf' := (5, [(0, .ref 42), (1, .int a1), (2, .int a2)], [.int a1, .ref 56], LAY, S)) (by rfl) ?_
  obtain ⟨hin1, hf⟩ := aGdE hf
  refine aIald hC hT rfl (by decide) (by rfl) hin1 ?_
  refine aRun_ok hC hT 8 (cf' := (16, [(0, .ref 42), (1, .int a1), (2, .int a2)], [.int (((5 : Int32) * a2) + (1 : Int32)), .ref 45, .long (((S.2.2 56) a1.toNatClampNeg).toInt64)], LAY, S)) (by rfl) ?_
  obtain ⟨hin2, hf⟩ := aGdE hf
  refine aIald hC hT rfl (by decide) (by rfl) hin2 ?_
  obtain ⟨w3, ew4, hf⟩ := aBnE hf
  refine aCallS (As := [.int ((S.2.2 45) (((5 : Int32) * a2) + (1 : Int32)).toNatClampNeg)]) (rest := [.long (((S.2.2 56) a1.toNatClampNeg).toInt64)]) hC hT rfl k_X11_isAhead_182.1 _ k_X11_isAhead_182.2 (by rfl) (Nat.le_of_ble_eq_true rfl) (by decide) (J_X11_figures C.2.2.1 C.1 N ((S.2.2 45) (((5 : Int32) * a2) + (1 : Int32)).toNatClampNeg) S ew4) ?_
  refine aRun_ok hC hT 6 (cf' := (28, [(3, .long ((((S.2.2 56) a1.toNatClampNeg).toInt64) * (w3.toInt64))), (0, .ref 42), (1, .int a1), (2, .int a2)], [.int a2, .ref 56], LAY, S)) (by rfl) ?_
  obtain ⟨hin5, hf⟩ := aGdE hf
  refine aIald hC hT rfl (by decide) (by rfl) hin5 ?_
  refine aRun_ok hC hT 8 (cf' := (39, [(3, .long ((((S.2.2 56) a1.toNatClampNeg).toInt64) * (w3.toInt64))), (0, .ref 42), (1, .int a1), (2, .int a2)], [.int (((5 : Int32) * a1) + (1 : Int32)), .ref 45, .long (((S.2.2 56) a2.toNatClampNeg).toInt64)], LAY, S)) (by rfl) ?_
  obtain ⟨hin6, hf⟩ := aGdE hf
  refine aIald hC hT rfl (by decide) (by rfl) hin6 ?_
  obtain ⟨w7, ew8, hf⟩ := aBnE hf
  refine aCallS (As := [.int ((S.2.2 45) (((5 : Int32) * a1) + (1 : Int32)).toNatClampNeg)]) (rest := [.long (((S.2.2 56) a2.toNatClampNeg).toInt64)]) hC hT rfl k_X11_isAhead_182.1 _ k_X11_isAhead_182.2 (by rfl) (Nat.le_of_ble_eq_true rfl) (by decide) (J_X11_figures C.2.2.1 C.1 N ((S.2.2 45) (((5 : Int32) * a1) + (1 : Int32)).toNatClampNeg) S ew8) ?_
  refine aRun_ok hC hT 6 (cf' := (51, [(5, .long ((((S.2.2 56) a2.toNatClampNeg).toInt64) * (w7.toInt64))), (3, .long ((((S.2.2 56) a1.toNatClampNeg).toInt64) * (w3.toInt64))), (0, .ref 42), (1, .int a1), (2, .int a2)], [.int (lg_cmp ((((S.2.2 56) a1.toNatClampNeg).toInt64) * (w3.toInt64)) ((((S.2.2 56) a2.toNatClampNeg).toInt64) * (w7.toInt64)))], LAY, S)) (by rfl) ?_
  refine aIf_gt hC hT (tgt := 66) rfl (by decide) (fun hc9 => ?_) (fun hc9 => ?_)
  · have hf := aIfT hf hc9
    refine aRun_ok hC hT 2 (cf' := (71, [(5, .long ((((S.2.2 56) a2.toNatClampNeg).toInt64) * (w7.toInt64))), (3, .long ((((S.2.2 56) a1.toNatClampNeg).toInt64) * (w3.toInt64))), (0, .ref 42), (1, .int a1), (2, .int a2)], [.int (1 : Int32)], LAY, S)) (by rfl) ?_
    have e9 := Option.some.inj hf; subst e9
    exact aRetB hC hT hF rfl (Or.inr rfl) rfl
  · have hf := aIfF hf hc9
    refine aRun_ok hC hT 3 (cf' := (58, [(5, .long ((((S.2.2 56) a2.toNatClampNeg).toInt64) * (w7.toInt64))), (3, .long ((((S.2.2 56) a1.toNatClampNeg).toInt64) * (w3.toInt64))), (0, .ref 42), (1, .int a1), (2, .int a2)], [.int (lg_cmp ((((S.2.2 56) a1.toNatClampNeg).toInt64) * (w3.toInt64)) ((((S.2.2 56) a2.toNatClampNeg).toInt64) * (w7.toInt64)))], LAY, S)) (by rfl) ?_
    refine aIf_ne hC hT (tgt := 70) rfl (by decide) (fun hc10 => ?_) (fun hc10 => ?_)
    · have hf := aIfF hf hc10
      refine aRun_ok hC hT 1 (cf' := (71, [(5, .long ((((S.2.2 56) a2.toNatClampNeg).toInt64) * (w7.toInt64))), (3, .long ((((S.2.2 56) a1.toNatClampNeg).toInt64) * (w3.toInt64))), (0, .ref 42), (1, .int a1), (2, .int a2)], [.int (0 : Int32)], LAY, S)) (by rfl) ?_
      have e9 := Option.some.inj hf; subst e9
      exact aRetB hC hT hF rfl (Or.inl rfl) rfl
    · have hf := aIfT hf hc10
      refine aRun_ok hC hT 2 (cf' := (63, [(5, .long ((((S.2.2 56) a2.toNatClampNeg).toInt64) * (w7.toInt64))), (3, .long ((((S.2.2 56) a1.toNatClampNeg).toInt64) * (w3.toInt64))), (0, .ref 42), (1, .int a1), (2, .int a2)], [.int a2, .int a1], LAY, S)) (by rfl) ?_
      refine aCmp_ge hC hT (tgt := 70) rfl (by decide) (fun hc11 => ?_) (fun hc11 => ?_)
      · have hf := aIfT hf hc11
        refine aRun_ok hC hT 1 (cf' := (71, [(5, .long ((((S.2.2 56) a2.toNatClampNeg).toInt64) * (w7.toInt64))), (3, .long ((((S.2.2 56) a1.toNatClampNeg).toInt64) * (w3.toInt64))), (0, .ref 42), (1, .int a1), (2, .int a2)], [.int (0 : Int32)], LAY, S)) (by rfl) ?_
        have e9 := Option.some.inj hf; subst e9
        exact aRetB hC hT hF rfl (Or.inl rfl) rfl
      · have hf := aIfF hf hc11
        refine aRun_ok hC hT 2 (cf' := (71, [(5, .long ((((S.2.2 56) a2.toNatClampNeg).toInt64) * (w7.toInt64))), (3, .long ((((S.2.2 56) a1.toNatClampNeg).toInt64) * (w3.toInt64))), (0, .ref 42), (1, .int a1), (2, .int a2)], [.int (1 : Int32)], LAY, S)) (by rfl) ?_
        have e9 := Option.some.inj hf; subst e9
        exact aRetB hC hT hF rfl (Or.inr rfl) rfl
def X11_layLooks_42_b165 (N : Nat) (rec86 : Int32 → aSt → Option (aSt)) (v2 : Int32) (S : aSt) : Option (aSt) := (rec86 (v2 + (1 : Int32)) S)
set_option maxHeartbeats 4000000 in
set_option maxRecDepth 100000 in
theorem X11_layLooks_42_b165_ok {C : aC} {N : Nat} {rec86 : Int32 → aSt → Option (aSt)} (hC : aCx C M_X11_layLooks) {r : aSt} (hF : aFin C none LAY r 0 0) (hrec86 : ∀ (v2 : Int32) (S : aSt), rec86 v2 S = (some r) → aX C M_X11_layLooks 0 0 (86, [(0, .ref 42), (2, .int v2)], [], LAY, S)) (v2 : Int32) (S : aSt) (hf : X11_layLooks_42_b165 N rec86 v2 S = (some r)) : aX C M_X11_layLooks 0 0 (165, [(0, .ref 42), (2, .int v2)], [], LAY, S) := by
  have hT := ok_X11_layLooks
  unfold X11_layLooks_42_b165 at hf
  refine aRun_ok hC hT 2 (cf' := (86, [(2, .int (v2 + (1 : Int32))), (0, .ref 42)], [], LAY, S)) (by rfl) ?_
  refine aLocs [1, 0] (lv' := [(0, .ref 42), (2, .int (v2 + (1 : Int32)))]) rfl ?_
  exact hrec86 (v2 + (1 : Int32)) S hf
def X11_layLooks_42_b148 (N : Nat) (rec86 : Int32 → aSt → Option (aSt)) (v2 : Int32) (v3 : Int32) (S : aSt) : Option (aSt) := (if aIx v3 30 = true then (X11_layLooks_42_b165 N rec86 v2 (aI (aA S 57 (upd (S.2.2 57) v3.toNatClampNeg v2)) 42 32 ((S.1 42 32) + (1 : Int32)))) else none)
set_option maxHeartbeats 4000000 in
set_option maxRecDepth 100000 in
theorem X11_layLooks_42_b148_ok {C : aC} {N : Nat} {rec86 : Int32 → aSt → Option (aSt)} (hC : aCx C M_X11_layLooks) {r : aSt} (hF : aFin C none LAY r 0 0) (hrec86 : ∀ (v2 : Int32) (S : aSt), rec86 v2 S = (some r) → aX C M_X11_layLooks 0 0 (86, [(0, .ref 42), (2, .int v2)], [], LAY, S)) (v2 : Int32) (v3 : Int32) (S : aSt) (hf : X11_layLooks_42_b148 N rec86 v2 v3 S = (some r)) : aX C M_X11_layLooks 0 0 (148, [(0, .ref 42), (2, .int v2), (3, .int v3)], [], LAY, S) := by
  have hT := ok_X11_layLooks
  unfold X11_layLooks_42_b148 at hf
  refine aRun_ok hC hT 4 (cf' := (154, [(0, .ref 42), (2, .int v2), (3, .int v3)], [.int v2, .int v3, .ref 57], LAY, S)) (by rfl) ?_
  obtain ⟨hin9, hf⟩ := aGdE hf
  refine aIast hC hT rfl (by decide) (by rfl) hin9 ?_
  refine aRun_ok hC hT 6 (cf' := (165, [(0, .ref 42), (2, .int v2), (3, .int v3)], [], LAY, (aI (aA S 57 (upd (S.2.2 57) v3.toNatClampNeg v2)) 42 32 ((S.1 42 32) + (1 : Int32))))) (by rfl) ?_
  refine aLocs [0, 1] (lv' := [(0, .ref 42), (2, .int v2)]) rfl ?_
  exact X11_layLooks_42_b165_ok hC hF hrec86 v2 (aI (aA S 57 (upd (S.2.2 57) v3.toNatClampNeg v2)) 42 32 ((S.1 42 32) + (1 : Int32))) hf
def X11_layLooks_42_b108 (N : Nat) (rec86 : Int32 → aSt → Option (aSt)) (rec108 : Int32 → Int32 → aSt → Option (aSt)) (v2 : Int32) (v3 : Int32) (S : aSt) : Option (aSt) := (if v3 ≤ (0 : Int32) then (X11_layLooks_42_b148 N rec86 v2 v3 S) else (if aIx (v3 - (1 : Int32)) 30 = true then (Option.bind (X11_isAhead_42 N v2 ((S.2.2 57) (v3 - (1 : Int32)).toNatClampNeg) S) (fun w11 => (if w11 = (0 : Int32) then (X11_layLooks_42_b148 N rec86 v2 v3 S) else (if aIx (v3 - (1 : Int32)) 30 = true then (if aIx v3 30 = true then (rec108 v2 (v3 + ((-1) : Int32)) (aA S 57 (upd (S.2.2 57) v3.toNatClampNeg ((S.2.2 57) (v3 - (1 : Int32)).toNatClampNeg)))) else none) else none)))) else none))
set_option maxHeartbeats 4000000 in
set_option maxRecDepth 100000 in
theorem X11_layLooks_42_b108_ok {C : aC} {N : Nat} {rec86 : Int32 → aSt → Option (aSt)} {rec108 : Int32 → Int32 → aSt → Option (aSt)} (hC : aCx C M_X11_layLooks) {r : aSt} (hF : aFin C none LAY r 0 0) (hrec86 : ∀ (v2 : Int32) (S : aSt), rec86 v2 S = (some r) → aX C M_X11_layLooks 0 0 (86, [(0, .ref 42), (2, .int v2)], [], LAY, S)) (hrec108 : ∀ (v2 : Int32) (v3 : Int32) (S : aSt), rec108 v2 v3 S = (some r) → aX C M_X11_layLooks 0 0 (108, [(0, .ref 42), (2, .int v2), (3, .int v3)], [], LAY, S)) (v2 : Int32) (v3 : Int32) (S : aSt) (hf : X11_layLooks_42_b108 N rec86 rec108 v2 v3 S = (some r)) : aX C M_X11_layLooks 0 0 (108, [(0, .ref 42), (2, .int v2), (3, .int v3)], [], LAY, S) := by
  have hT := ok_X11_layLooks
  unfold X11_layLooks_42_b108 at hf
  refine aRun_ok hC hT 1 (cf' := (109, [(0, .ref 42), (2, .int v2), (3, .int v3)], [.int v3], LAY, S)) (by rfl) ?_
  refine aIf_le hC hT (tgt := 148) rfl (by decide) (fun hc8 => ?_) (fun hc8 => ?_)
  · have hf := aIfT hf hc8
    exact X11_layLooks_42_b148_ok hC hF hrec86 v2 v3 S hf
  · have hf := aIfF hf hc8
    refine aRun_ok hC hT 7 (cf' := (121, [(0, .ref 42), (2, .int v2), (3, .int v3)], [.int (v3 - (1 : Int32)), .ref 57, .int v2, .ref 42], LAY, S)) (by rfl) ?_
    obtain ⟨hin10, hf⟩ := aGdE hf
    refine aIald hC hT rfl (by decide) (by rfl) hin10 ?_
    obtain ⟨w11, ew12, hf⟩ := aBnE hf
    refine aCallV (b := 42) (As := [.int v2, .int ((S.2.2 57) (v3 - (1 : Int32)).toNatClampNeg)]) (rest := []) hC hT rfl k_X11_layLooks_279.1 _ _ k_X11_layLooks_279.2 (by decide) (by rfl) (by rfl) (by rfl) (Nat.le_of_ble_eq_true rfl) (by decide) (J_X11_isAhead_42 C.2.2.1 C.1 N v2 ((S.2.2 57) (v3 - (1 : Int32)).toNatClampNeg) S ew12) ?_
    refine aIf_eq hC hT (tgt := 148) rfl (by decide) (fun hc13 => ?_) (fun hc13 => ?_)
    · have hf := aIfT hf hc13
      exact X11_layLooks_42_b148_ok hC hF hrec86 v2 v3 S hf
    · have hf := aIfF hf hc13
      refine aRun_ok hC hT 8 (cf' := (140, [(0, .ref 42), (2, .int v2), (3, .int v3)], [.int (v3 - (1 : Int32)), .ref 57, .int v3, .ref 57], LAY, S)) (by rfl) ?_
      obtain ⟨hin14, hf⟩ := aGdE hf
      refine aIald hC hT rfl (by decide) (by rfl) hin14 ?_
      obtain ⟨hin15, hf⟩ := aGdE hf
      refine aIast hC hT rfl (by decide) (by rfl) hin15 ?_
      refine aRun_ok hC hT 2 (cf' := (108, [(3, .int (v3 + ((-1) : Int32))), (0, .ref 42), (2, .int v2)], [], LAY, (aA S 57 (upd (S.2.2 57) v3.toNatClampNeg ((S.2.2 57) (v3 - (1 : Int32)).toNatClampNeg))))) (by rfl) ?_
      refine aLocs [1, 2, 0] (lv' := [(0, .ref 42), (2, .int v2), (3, .int (v3 + ((-1) : Int32)))]) rfl ?_
      exact hrec108 v2 (v3 + ((-1) : Int32)) (aA S 57 (upd (S.2.2 57) v3.toNatClampNeg ((S.2.2 57) (v3 - (1 : Int32)).toNatClampNeg))) hf
def X11_layLooks_42_l108 (N : Nat) (rec86 : Int32 → aSt → Option (aSt)) : Nat → Int32 → Int32 → aSt → Option (aSt)
  | 0 => fun _ _ _ => none
  | n + 1 => X11_layLooks_42_b108 N rec86 (X11_layLooks_42_l108 N rec86 n)
theorem X11_layLooks_42_l108_ok {C : aC} {N : Nat} {rec86 : Int32 → aSt → Option (aSt)} (hC : aCx C M_X11_layLooks) {r : aSt} (hF : aFin C none LAY r 0 0) (hrec86 : ∀ (v2 : Int32) (S : aSt), rec86 v2 S = (some r) → aX C M_X11_layLooks 0 0 (86, [(0, .ref 42), (2, .int v2)], [], LAY, S)) : ∀ (n : Nat) (v2 : Int32) (v3 : Int32) (S : aSt), X11_layLooks_42_l108 N rec86 n v2 v3 S = (some r) → aX C M_X11_layLooks 0 0 (108, [(0, .ref 42), (2, .int v2), (3, .int v3)], [], LAY, S)
  | 0, _, _, _,  h => nomatch (show (none : Option (aSt)) = some _ from h)
  | n + 1, v2, v3, S,  h => X11_layLooks_42_b108_ok hC hF hrec86 (fun v2 v3 S h => X11_layLooks_42_l108_ok hC hF hrec86 n v2 v3 S h) v2 v3 S h
def X11_layLooks_42_b86 (N : Nat) (rec86 : Int32 → aSt → Option (aSt)) (v2 : Int32) (S : aSt) : Option (aSt) := (if (S.1 42 5) ≤ v2 then some (S) else (if aIx v2 30 = true then (if ((S.2.2 56) v2.toNatClampNeg) ≤ (0 : Int32) then (X11_layLooks_42_b165 N rec86 v2 S) else (X11_layLooks_42_l108 N rec86 N v2 (S.1 42 32) S)) else none))
set_option maxHeartbeats 4000000 in
set_option maxRecDepth 100000 in
theorem X11_layLooks_42_b86_ok {C : aC} {N : Nat} {rec86 : Int32 → aSt → Option (aSt)} (hC : aCx C M_X11_layLooks) {r : aSt} (hF : aFin C none LAY r 0 0) (hrec86 : ∀ (v2 : Int32) (S : aSt), rec86 v2 S = (some r) → aX C M_X11_layLooks 0 0 (86, [(0, .ref 42), (2, .int v2)], [], LAY, S)) (v2 : Int32) (S : aSt) (hf : X11_layLooks_42_b86 N rec86 v2 S = (some r)) : aX C M_X11_layLooks 0 0 (86, [(0, .ref 42), (2, .int v2)], [], LAY, S) := by
  have hT := ok_X11_layLooks
  unfold X11_layLooks_42_b86 at hf
  refine aRun_ok hC hT 3 (cf' := (91, [(0, .ref 42), (2, .int v2)], [.int (S.1 42 5), .int v2], LAY, S)) (by rfl) ?_
  refine aCmp_ge hC hT (tgt := 171) rfl (by decide) (fun hc5 => ?_) (fun hc5 => ?_)
  · have hf := aIfT hf hc5
    have e9 := Option.some.inj hf; subst e9
    exact aRetV hC hT hF rfl rfl
  · have hf := aIfF hf hc5
    refine aRun_ok hC hT 3 (cf' := (99, [(0, .ref 42), (2, .int v2)], [.int v2, .ref 56], LAY, S)) (by rfl) ?_
    obtain ⟨hin6, hf⟩ := aGdE hf
    refine aIald hC hT rfl (by decide) (by rfl) hin6 ?_
    refine aIf_le hC hT (tgt := 165) rfl (by decide) (fun hc7 => ?_) (fun hc7 => ?_)
    · have hf := aIfT hf hc7
      exact X11_layLooks_42_b165_ok hC hF hrec86 v2 S hf
    · have hf := aIfF hf hc7
      refine aRun_ok hC hT 3 (cf' := (108, [(3, .int (S.1 42 32)), (0, .ref 42), (2, .int v2)], [], LAY, S)) (by rfl) ?_
      refine aLocs [1, 2, 0] (lv' := [(0, .ref 42), (2, .int v2), (3, .int (S.1 42 32))]) rfl ?_
      exact X11_layLooks_42_l108_ok hC hF hrec86 N v2 (S.1 42 32) S hf
def X11_layLooks_42_l86 (N : Nat) : Nat → Int32 → aSt → Option (aSt)
  | 0 => fun _ _ => none
  | n + 1 => X11_layLooks_42_b86 N (X11_layLooks_42_l86 N n)
theorem X11_layLooks_42_l86_ok {C : aC} {N : Nat} (hC : aCx C M_X11_layLooks) {r : aSt} (hF : aFin C none LAY r 0 0) : ∀ (n : Nat) (v2 : Int32) (S : aSt), X11_layLooks_42_l86 N n v2 S = (some r) → aX C M_X11_layLooks 0 0 (86, [(0, .ref 42), (2, .int v2)], [], LAY, S)
  | 0, _, _,  h => nomatch (show (none : Option (aSt)) = some _ from h)
  | n + 1, v2, S,  h => X11_layLooks_42_b86_ok hC hF (fun v2 S h => X11_layLooks_42_l86_ok hC hF n v2 S h) v2 S h
def X11_layLooks_42_b79 (N : Nat) (S : aSt) : Option (aSt) := (X11_layLooks_42_l86 N N (0 : Int32) (aI S 42 32 (0 : Int32)))
set_option maxHeartbeats 4000000 in
set_option maxRecDepth 100000 in
theorem X11_layLooks_42_b79_ok {C : aC} {N : Nat} (hC : aCx C M_X11_layLooks) {r : aSt} (hF : aFin C none LAY r 0 0) (S : aSt) (hf : X11_layLooks_42_b79 N S = (some r)) : aX C M_X11_layLooks 0 0 (79, [(0, .ref 42)], [], LAY, S) := by
  have hT := ok_X11_layLooks
  unfold X11_layLooks_42_b79 at hf
  refine aRun_ok hC hT 5 (cf' := (86, [(2, .int (0 : Int32)), (0, .ref 42)], [], LAY, (aI S 42 32 (0 : Int32)))) (by rfl) ?_
  refine aLocs [1, 0] (lv' := [(0, .ref 42), (2, .int (0 : Int32))]) rfl ?_
  exact X11_layLooks_42_l86_ok hC hF N (0 : Int32) (aI S 42 32 (0 : Int32)) hf
def X11_layLooks_42_b73 (N : Nat) (rec28 : Int32 → aSt → Option (aSt)) (v2 : Int32) (S : aSt) : Option (aSt) := (rec28 (v2 + (1 : Int32)) S)
set_option maxHeartbeats 4000000 in
set_option maxRecDepth 100000 in
theorem X11_layLooks_42_b73_ok {C : aC} {N : Nat} {rec28 : Int32 → aSt → Option (aSt)} (hC : aCx C M_X11_layLooks) {r : aSt} (hF : aFin C none LAY r 0 0) (hrec28 : ∀ (v2 : Int32) (S : aSt), rec28 v2 S = (some r) → aX C M_X11_layLooks 0 0 (28, [(0, .ref 42), (2, .int v2)], [], LAY, S)) (v2 : Int32) (S : aSt) (hf : X11_layLooks_42_b73 N rec28 v2 S = (some r)) : aX C M_X11_layLooks 0 0 (73, [(0, .ref 42), (2, .int v2)], [], LAY, S) := by
  have hT := ok_X11_layLooks
  unfold X11_layLooks_42_b73 at hf
  refine aRun_ok hC hT 2 (cf' := (28, [(2, .int (v2 + (1 : Int32))), (0, .ref 42)], [], LAY, S)) (by rfl) ?_
  refine aLocs [1, 0] (lv' := [(0, .ref 42), (2, .int (v2 + (1 : Int32)))]) rfl ?_
  exact hrec28 (v2 + (1 : Int32)) S hf
def X11_layLooks_42_b28 (N : Nat) (rec28 : Int32 → aSt → Option (aSt)) (v2 : Int32) (S : aSt) : Option (aSt) := (if (S.1 42 25) ≤ v2 then (X11_layLooks_42_b79 N S) else (if aIx v2 2048 = true then (if aIx ((S.2.2 55) v2.toNatClampNeg) 2048 = true then (if (5 : Int32) ≤ ((S.2.2 50) ((S.2.2 55) v2.toNatClampNeg).toNatClampNeg) then (X11_layLooks_42_b73 N rec28 v2 S) else (if aIx ((S.2.2 55) v2.toNatClampNeg) 2048 = true then (if aIx ((S.2.2 51) ((S.2.2 55) v2.toNatClampNeg).toNatClampNeg) 30 = true then (if aIx ((S.2.2 55) v2.toNatClampNeg) 2048 = true then (if aIx ((S.2.2 51) ((S.2.2 55) v2.toNatClampNeg).toNatClampNeg) 30 = true then (X11_layLooks_42_b73 N rec28 v2 (aA S 56 (upd (S.2.2 56) ((S.2.2 51) ((S.2.2 55) v2.toNatClampNeg).toNatClampNeg).toNatClampNeg (((S.2.2 56) ((S.2.2 51) ((S.2.2 55) v2.toNatClampNeg).toNatClampNeg).toNatClampNeg) + ((S.2.2 54) ((S.2.2 55) v2.toNatClampNeg).toNatClampNeg))))) else none) else none) else none) else none)) else none) else none))
set_option maxHeartbeats 4000000 in
set_option maxRecDepth 100000 in
theorem X11_layLooks_42_b28_ok {C : aC} {N : Nat} {rec28 : Int32 → aSt → Option (aSt)} (hC : aCx C M_X11_layLooks) {r : aSt} (hF : aFin C none LAY r 0 0) (hrec28 : ∀ (v2 : Int32) (S : aSt), rec28 v2 S = (some r) → aX C M_X11_layLooks 0 0 (28, [(0, .ref 42), (2, .int v2)], [], LAY, S)) (v2 : Int32) (S : aSt) (hf : X11_layLooks_42_b28 N rec28 v2 S = (some r)) : aX C M_X11_layLooks 0 0 (28, [(0, .ref 42), (2, .int v2)], [], LAY, S) := by
  have hT := ok_X11_layLooks
  unfold X11_layLooks_42_b28 at hf
  refine aRun_ok hC hT 3 (cf' := (33, [(0, .ref 42), (2, .int v2)], [.int (S.1 42 25), .int v2], LAY, S)) (by rfl) ?_
  refine aCmp_ge hC hT (tgt := 79) rfl (by decide) (fun hc4 => ?_) (fun hc4 => ?_)
  · have hf := aIfT hf hc4
    refine aLocs [0] (lv' := [(0, .ref 42)]) rfl ?_
    exact X11_layLooks_42_b79_ok hC hF S hf
  · have hf := aIfF hf hc4
    refine aRun_ok hC hT 3 (cf' := (41, [(0, .ref 42), (2, .int v2)], [.int v2, .ref 55], LAY, S)) (by rfl) ?_
    obtain ⟨hin16, hf⟩ := aGdE hf
    refine aIald hC hT rfl (by decide) (by rfl) hin16 ?_
    refine aRun_ok hC hT 4 (cf' := (48, [(3, .int ((S.2.2 55) v2.toNatClampNeg)), (0, .ref 42), (2, .int v2)], [.int ((S.2.2 55) v2.toNatClampNeg), .ref 50], LAY, S)) (by rfl) ?_
    obtain ⟨hin17, hf⟩ := aGdE hf
    refine aIald hC hT rfl (by decide) (by rfl) hin17 ?_
    refine aRun_ok hC hT 1 (cf' := (50, [(3, .int ((S.2.2 55) v2.toNatClampNeg)), (0, .ref 42), (2, .int v2)], [.int (5 : Int32), .int ((S.2.2 50) ((S.2.2 55) v2.toNatClampNeg).toNatClampNeg)], LAY, S)) (by rfl) ?_
    refine aCmp_ge hC hT (tgt := 73) rfl (by decide) (fun hc18 => ?_) (fun hc18 => ?_)
    · have hf := aIfT hf hc18
      refine aLocs [1, 2] (lv' := [(0, .ref 42), (2, .int v2)]) rfl ?_
      exact X11_layLooks_42_b73_ok hC hF hrec28 v2 S hf
    · have hf := aIfF hf hc18
      refine aRun_ok hC hT 5 (cf' := (62, [(3, .int ((S.2.2 55) v2.toNatClampNeg)), (0, .ref 42), (2, .int v2)], [.int ((S.2.2 55) v2.toNatClampNeg), .ref 51, .ref 56], LAY, S)) (by rfl) ?_
      obtain ⟨hin19, hf⟩ := aGdE hf
      refine aIald hC hT rfl (by decide) (by rfl) hin19 ?_
      refine aRun_ok hC hT 1 (cf' := (64, [(3, .int ((S.2.2 55) v2.toNatClampNeg)), (0, .ref 42), (2, .int v2)], [.int ((S.2.2 51) ((S.2.2 55) v2.toNatClampNeg).toNatClampNeg), .ref 56, .int ((S.2.2 51) ((S.2.2 55) v2.toNatClampNeg).toNatClampNeg), .ref 56], LAY, S)) (by rfl) ?_
      obtain ⟨hin20, hf⟩ := aGdE hf
      refine aIald hC hT rfl (by decide) (by rfl) hin20 ?_
      refine aRun_ok hC hT 3 (cf' := (70, [(3, .int ((S.2.2 55) v2.toNatClampNeg)), (0, .ref 42), (2, .int v2)], [.int ((S.2.2 55) v2.toNatClampNeg), .ref 54, .int ((S.2.2 56) ((S.2.2 51) ((S.2.2 55) v2.toNatClampNeg).toNatClampNeg).toNatClampNeg), .int ((S.2.2 51) ((S.2.2 55) v2.toNatClampNeg).toNatClampNeg), .ref 56], LAY, S)) (by rfl) ?_
      obtain ⟨hin21, hf⟩ := aGdE hf
      refine aIald hC hT rfl (by decide) (by rfl) hin21 ?_
      refine aRun_ok hC hT 1 (cf' := (72, [(3, .int ((S.2.2 55) v2.toNatClampNeg)), (0, .ref 42), (2, .int v2)], [.int (((S.2.2 56) ((S.2.2 51) ((S.2.2 55) v2.toNatClampNeg).toNatClampNeg).toNatClampNeg) + ((S.2.2 54) ((S.2.2 55) v2.toNatClampNeg).toNatClampNeg)), .int ((S.2.2 51) ((S.2.2 55) v2.toNatClampNeg).toNatClampNeg), .ref 56], LAY, S)) (by rfl) ?_
      obtain ⟨hin22, hf⟩ := aGdE hf
      refine aIast hC hT rfl (by decide) (by rfl) hin22 ?_
      refine aLocs [1, 2] (lv' := [(0, .ref 42), (2, .int v2)]) rfl ?_
      exact X11_layLooks_42_b73_ok hC hF hrec28 v2 (aA S 56 (upd (S.2.2 56) ((S.2.2 51) ((S.2.2 55) v2.toNatClampNeg).toNatClampNeg).toNatClampNeg (((S.2.2 56) ((S.2.2 51) ((S.2.2 55) v2.toNatClampNeg).toNatClampNeg).toNatClampNeg) + ((S.2.2 54) ((S.2.2 55) v2.toNatClampNeg).toNatClampNeg)))) hf
def X11_layLooks_42_l28 (N : Nat) : Nat → Int32 → aSt → Option (aSt)
  | 0 => fun _ _ => none
  | n + 1 => X11_layLooks_42_b28 N (X11_layLooks_42_l28 N n)
theorem X11_layLooks_42_l28_ok {C : aC} {N : Nat} (hC : aCx C M_X11_layLooks) {r : aSt} (hF : aFin C none LAY r 0 0) : ∀ (n : Nat) (v2 : Int32) (S : aSt), X11_layLooks_42_l28 N n v2 S = (some r) → aX C M_X11_layLooks 0 0 (28, [(0, .ref 42), (2, .int v2)], [], LAY, S)
  | 0, _, _,  h => nomatch (show (none : Option (aSt)) = some _ from h)
  | n + 1, v2, S,  h => X11_layLooks_42_b28_ok hC hF (fun v2 S h => X11_layLooks_42_l28_ok hC hF n v2 S h) v2 S h
def X11_layLooks_42_b26 (N : Nat) (S : aSt) : Option (aSt) := (X11_layLooks_42_l28 N N (0 : Int32) S)
set_option maxHeartbeats 4000000 in
set_option maxRecDepth 100000 in
theorem X11_layLooks_42_b26_ok {C : aC} {N : Nat} (hC : aCx C M_X11_layLooks) {r : aSt} (hF : aFin C none LAY r 0 0) (S : aSt) (hf : X11_layLooks_42_b26 N S = (some r)) : aX C M_X11_layLooks 0 0 (26, [(0, .ref 42)], [], LAY, S) := by
  have hT := ok_X11_layLooks
  unfold X11_layLooks_42_b26 at hf
  refine aRun_ok hC hT 2 (cf' := (28, [(2, .int (0 : Int32)), (0, .ref 42)], [], LAY, S)) (by rfl) ?_
  refine aLocs [1, 0] (lv' := [(0, .ref 42), (2, .int (0 : Int32))]) rfl ?_
  exact X11_layLooks_42_l28_ok hC hF N (0 : Int32) S hf
def X11_layLooks_42_b7 (N : Nat) (rec7 : Int32 → aSt → Option (aSt)) (v2 : Int32) (S : aSt) : Option (aSt) := (if (30 : Int32) ≤ v2 then (X11_layLooks_42_b26 N S) else (if aIx v2 30 = true then (rec7 (v2 + (1 : Int32)) (aA S 56 (upd (S.2.2 56) v2.toNatClampNeg (0 : Int32)))) else none))
set_option maxHeartbeats 4000000 in
set_option maxRecDepth 100000 in
theorem X11_layLooks_42_b7_ok {C : aC} {N : Nat} {rec7 : Int32 → aSt → Option (aSt)} (hC : aCx C M_X11_layLooks) {r : aSt} (hF : aFin C none LAY r 0 0) (hrec7 : ∀ (v2 : Int32) (S : aSt), rec7 v2 S = (some r) → aX C M_X11_layLooks 0 0 (7, [(0, .ref 42), (2, .int v2)], [], LAY, S)) (v2 : Int32) (S : aSt) (hf : X11_layLooks_42_b7 N rec7 v2 S = (some r)) : aX C M_X11_layLooks 0 0 (7, [(0, .ref 42), (2, .int v2)], [], LAY, S) := by
  have hT := ok_X11_layLooks
  unfold X11_layLooks_42_b7 at hf
  refine aRun_ok hC hT 2 (cf' := (10, [(0, .ref 42), (2, .int v2)], [.int (30 : Int32), .int v2], LAY, S)) (by rfl) ?_
  refine aCmp_ge hC hT (tgt := 26) rfl (by decide) (fun hc3 => ?_) (fun hc3 => ?_)
  · have hf := aIfT hf hc3
    refine aLocs [0] (lv' := [(0, .ref 42)]) rfl ?_
    exact X11_layLooks_42_b26_ok hC hF S hf
  · have hf := aIfF hf hc3
    refine aRun_ok hC hT 4 (cf' := (19, [(0, .ref 42), (2, .int v2)], [.int (0 : Int32), .int v2, .ref 56], LAY, S)) (by rfl) ?_
    obtain ⟨hin23, hf⟩ := aGdE hf
    refine aIast hC hT rfl (by decide) (by rfl) hin23 ?_
    refine aRun_ok hC hT 2 (cf' := (7, [(2, .int (v2 + (1 : Int32))), (0, .ref 42)], [], LAY, (aA S 56 (upd (S.2.2 56) v2.toNatClampNeg (0 : Int32))))) (by rfl) ?_
    refine aLocs [1, 0] (lv' := [(0, .ref 42), (2, .int (v2 + (1 : Int32)))]) rfl ?_
    exact hrec7 (v2 + (1 : Int32)) (aA S 56 (upd (S.2.2 56) v2.toNatClampNeg (0 : Int32))) hf
def X11_layLooks_42_l7 (N : Nat) : Nat → Int32 → aSt → Option (aSt)
  | 0 => fun _ _ => none
  | n + 1 => X11_layLooks_42_b7 N (X11_layLooks_42_l7 N n)
theorem X11_layLooks_42_l7_ok {C : aC} {N : Nat} (hC : aCx C M_X11_layLooks) {r : aSt} (hF : aFin C none LAY r 0 0) : ∀ (n : Nat) (v2 : Int32) (S : aSt), X11_layLooks_42_l7 N n v2 S = (some r) → aX C M_X11_layLooks 0 0 (7, [(0, .ref 42), (2, .int v2)], [], LAY, S)
  | 0, _, _,  h => nomatch (show (none : Option (aSt)) = some _ from h)
  | n + 1, v2, S,  h => X11_layLooks_42_b7_ok hC hF (fun v2 S h => X11_layLooks_42_l7_ok hC hF n v2 S h) v2 S h
def X11_layLooks_42 (N : Nat) (a1 : Int32) (S : aSt) : Option (aSt) := (Option.bind (X11_layOnes_42 N a1 S) (fun w1 => (X11_layLooks_42_l7 N N (0 : Int32) w1)))
set_option maxHeartbeats 4000000 in
set_option maxRecDepth 100000 in
theorem J_X11_layLooks_42 (l : Launch) (g : aWg) (N : Nat) (a1 : Int32) (S : aSt) {r : aSt} (hf : X11_layLooks_42 N a1 S = (some r)) : aJ l g yX11_layLooks M_X11_layLooks [.ref 42, .int a1] LAY S none LAY r 0 0 := by
  refine aJ_of (by decide +kernel) rfl (Nat.le_of_ble_eq_true rfl) (fun h => nomatch h) ?_
  intro C hg hl hC hz hF
  subst hg; subst hl
  have hT := ok_X11_layLooks
  unfold X11_layLooks_42 at hf
  show aX C M_X11_layLooks 0 0 (0, [(0, .ref 42), (1, .int a1)], [], LAY, S)
  refine aRun_ok hC hT 2 (cf' := (2, [(0, .ref 42), (1, .int a1)], [.int a1, .ref 42], LAY, S)) (by rfl) ?_
  obtain ⟨w1, ew2, hf⟩ := aBnE hf
  refine aCallV (b := 42) (As := [.int a1]) (rest := []) hC hT rfl k_X11_layLooks_227.1 _ _ k_X11_layLooks_227.2 (by decide) (by rfl) (by rfl) (by rfl) (Nat.le_of_ble_eq_true rfl) (by decide) (J_X11_layOnes_42 C.2.2.1 C.1 N a1 S ew2) ?_
  refine aRun_ok hC hT 2 (cf' := (7, [(2, .int (0 : Int32)), (0, .ref 42), (1, .int a1)], [], LAY, w1)) (by rfl) ?_
  refine aLocs [1, 0] (lv' := [(0, .ref 42), (2, .int (0 : Int32))]) rfl ?_
  exact X11_layLooks_42_l7_ok hC hF N (0 : Int32) w1 hf
def X11_look_42 (N : Nat) (a1 : Int32) (a2 : Int32) (S : aSt) : Option (Int32 × aSt) := (if ((-1) : Int32) ≤ a1 then (Option.bind (X11_layLooks_42 N a2 S) (fun w2 => (if a1 = ((-1) : Int32) then some (((w2.1 42 32), w2)) else (if (w2.1 42 32) ≤ a1 then some ((((-1) : Int32), w2)) else (if aIx a1 30 = true then some ((((w2.2.2 57) a1.toNatClampNeg), w2)) else none))))) else some ((((-3) : Int32), S)))
set_option maxHeartbeats 4000000 in
set_option maxRecDepth 100000 in
theorem J_X11_look_42 (l : Launch) (g : aWg) (N : Nat) (a1 : Int32) (a2 : Int32) (S : aSt) {r : Int32 × aSt} (hf : X11_look_42 N a1 a2 S = (some r)) : aJ l g yX11_look M_X11_look [.ref 42, .int a1, .int a2] LAY S (some (.int r.1)) LAY r.2 0 0 := by
  refine aJ_of (by decide +kernel) rfl (Nat.le_of_ble_eq_true rfl) (fun h => nomatch h) ?_
  intro C hg hl hC hz hF
  subst hg; subst hl
  have hT := ok_X11_look
  unfold X11_look_42 at hf
  show aX C M_X11_look 0 0 (0, [(0, .ref 42), (1, .int a1), (2, .int a2)], [], LAY, S)
  refine aRun_ok hC hT 2 (cf' := (2, [(0, .ref 42), (1, .int a1), (2, .int a2)], [.int ((-1) : Int32), .int a1], LAY, S)) (by rfl) ?_
  refine aCmp_ge hC hT (tgt := 8) rfl (by decide) (fun hc1 => ?_) (fun hc1 => ?_)
  · have hf := aIfT hf hc1
    refine aRun_ok hC hT 2 (cf' := (10, [(0, .ref 42), (1, .int a1), (2, .int a2)], [.int a2, .ref 42], LAY, S)) (by rfl) ?_
    obtain ⟨w2, ew3, hf⟩ := aBnE hf
    refine aCallV (b := 42) (As := [.int a2]) (rest := []) hC hT rfl k_X11_look_282.1 _ _ k_X11_look_282.2 (by decide) (by rfl) (by rfl) (by rfl) (Nat.le_of_ble_eq_true rfl) (by decide) (J_X11_layLooks_42 C.2.2.1 C.1 N a2 S ew3) ?_
    refine aRun_ok hC hT 2 (cf' := (15, [(0, .ref 42), (1, .int a1), (2, .int a2)], [.int ((-1) : Int32), .int a1], LAY, w2)) (by rfl) ?_
    refine aCmp_ne hC hT (tgt := 25) rfl (by decide) (fun hc4 => ?_) (fun hc4 => ?_)
    · have hf := aIfF hf hc4
      refine aRun_ok hC hT 3 (cf' := (30, [(0, .ref 42), (1, .int a1), (2, .int a2)], [.int (w2.1 42 32), .int a1], LAY, w2)) (by rfl) ?_
      refine aCmp_ge hC hT (tgt := 42) rfl (by decide) (fun hc5 => ?_) (fun hc5 => ?_)
      · have hf := aIfT hf hc5
        refine aRun_ok hC hT 1 (cf' := (43, [(0, .ref 42), (1, .int a1), (2, .int a2)], [.int ((-1) : Int32)], LAY, w2)) (by rfl) ?_
        have e9 := Option.some.inj hf; subst e9
        exact aRetI hC hT hF rfl rfl
      · have hf := aIfF hf hc5
        refine aRun_ok hC hT 3 (cf' := (38, [(0, .ref 42), (1, .int a1), (2, .int a2)], [.int a1, .ref 57], LAY, w2)) (by rfl) ?_
        obtain ⟨hin6, hf⟩ := aGdE hf
        refine aIald hC hT rfl (by decide) (by rfl) hin6 ?_
        refine aRun_ok hC hT 1 (cf' := (43, [(0, .ref 42), (1, .int a1), (2, .int a2)], [.int ((w2.2.2 57) a1.toNatClampNeg)], LAY, w2)) (by rfl) ?_
        have e9 := Option.some.inj hf; subst e9
        exact aRetI hC hT hF rfl rfl
    · have hf := aIfT hf hc4
      refine aRun_ok hC hT 3 (cf' := (43, [(0, .ref 42), (1, .int a1), (2, .int a2)], [.int (w2.1 42 32)], LAY, w2)) (by rfl) ?_
      have e9 := Option.some.inj hf; subst e9
      exact aRetI hC hT hF rfl rfl
  · have hf := aIfF hf hc1
    refine aRun_ok hC hT 1 (cf' := (7, [(0, .ref 42), (1, .int a1), (2, .int a2)], [.int ((-3) : Int32)], LAY, S)) (by rfl) ?_
    have e9 := Option.some.inj hf; subst e9
    exact aRetI hC hT hF rfl rfl
def X11_cost (N : Nat) (a0 : Int32) (a1 : Int32) : Option (Int32) := (if a0 = a1 then some ((0 : Int32)) else (Option.bind (X11_isTurned N a0 a1) (fun w2 => (if w2 = (0 : Int32) then (Option.bind (X11_isFigure N a0 a1) (fun w5 => (if w5 = (0 : Int32) then (if ((10 : Int32) * a0) = a1 then some ((1 : Int32)) else (if ((10 : Int32) * a1) = a0 then some ((1 : Int32)) else some (((-1) : Int32)))) else some ((1 : Int32))))) else some ((1 : Int32))))))
set_option maxHeartbeats 4000000 in
set_option maxRecDepth 100000 in
theorem J_X11_cost (l : Launch) (g : aWg) (N : Nat) (a0 : Int32) (a1 : Int32) (S : aSt) {r : Int32} (hf : X11_cost N a0 a1 = (some r)) : aJ l g yX11_cost M_X11_cost [.int a0, .int a1] LAY S (some (.int r)) LAY S 0 0 := by
  refine aJ_of (by decide +kernel) rfl (Nat.le_of_ble_eq_true rfl) (fun h => nomatch h) ?_
  intro C hg hl hC hz hF
  subst hg; subst hl
  have hT := ok_X11_cost
  unfold X11_cost at hf
  show aX C M_X11_cost 0 0 (0, [(0, .int a0), (1, .int a1)], [], LAY, S)
  refine aRun_ok hC hT 2 (cf' := (2, [(0, .int a0), (1, .int a1)], [.int a1, .int a0], LAY, S)) (by rfl) ?_
  refine aCmp_ne hC hT (tgt := 9) rfl (by decide) (fun hc1 => ?_) (fun hc1 => ?_)
  · have hf := aIfF hf hc1
    refine aRun_ok hC hT 2 (cf' := (11, [(0, .int a0), (1, .int a1)], [.int a1, .int a0], LAY, S)) (by rfl) ?_
    obtain ⟨w2, ew3, hf⟩ := aBnE hf
    refine aCallS (As := [.int a0, .int a1]) (rest := []) hC hT rfl k_X11_cost_285.1 _ k_X11_cost_285.2 (by rfl) (Nat.le_of_ble_eq_true rfl) (by decide) (J_X11_isTurned C.2.2.1 C.1 N a0 a1 S ew3) ?_
    refine aIf_ne hC hT (tgt := 41) rfl (by decide) (fun hc4 => ?_) (fun hc4 => ?_)
    · have hf := aIfF hf hc4
      refine aRun_ok hC hT 2 (cf' := (46, [(0, .int a0), (1, .int a1)], [.int (1 : Int32)], LAY, S)) (by rfl) ?_
      have e9 := Option.some.inj hf; subst e9
      exact aRetI hC hT hF rfl rfl
    · have hf := aIfT hf hc4
      refine aRun_ok hC hT 2 (cf' := (19, [(0, .int a0), (1, .int a1)], [.int a1, .int a0], LAY, S)) (by rfl) ?_
      obtain ⟨w5, ew6, hf⟩ := aBnE hf
      refine aCallS (As := [.int a0, .int a1]) (rest := []) hC hT rfl k_X11_cost_288.1 _ k_X11_cost_288.2 (by rfl) (Nat.le_of_ble_eq_true rfl) (by decide) (J_X11_isFigure C.2.2.1 C.1 N a0 a1 S ew6) ?_
      refine aIf_ne hC hT (tgt := 41) rfl (by decide) (fun hc7 => ?_) (fun hc7 => ?_)
      · have hf := aIfF hf hc7
        refine aRun_ok hC hT 2 (cf' := (46, [(0, .int a0), (1, .int a1)], [.int (1 : Int32)], LAY, S)) (by rfl) ?_
        have e9 := Option.some.inj hf; subst e9
        exact aRetI hC hT hF rfl rfl
      · have hf := aIfT hf hc7
        refine aRun_ok hC hT 4 (cf' := (30, [(0, .int a0), (1, .int a1)], [.int a1, .int ((10 : Int32) * a0)], LAY, S)) (by rfl) ?_
        refine aCmp_eq hC hT (tgt := 41) rfl (by decide) (fun hc8 => ?_) (fun hc8 => ?_)
        · have hf := aIfT hf hc8
          refine aRun_ok hC hT 2 (cf' := (46, [(0, .int a0), (1, .int a1)], [.int (1 : Int32)], LAY, S)) (by rfl) ?_
          have e9 := Option.some.inj hf; subst e9
          exact aRetI hC hT hF rfl rfl
        · have hf := aIfF hf hc8
          refine aRun_ok hC hT 4 (cf' := (38, [(0, .int a0), (1, .int a1)], [.int a0, .int ((10 : Int32) * a1)], LAY, S)) (by rfl) ?_
          refine aCmp_ne hC hT (tgt := 45) rfl (by decide) (fun hc9 => ?_) (fun hc9 => ?_)
          · have hf := aIfF hf hc9
            refine aRun_ok hC hT 1 (cf' := (46, [(0, .int a0), (1, .int a1)], [.int ((-1) : Int32)], LAY, S)) (by rfl) ?_
            have e9 := Option.some.inj hf; subst e9
            exact aRetI hC hT hF rfl rfl
          · have hf := aIfT hf hc9
            refine aRun_ok hC hT 2 (cf' := (46, [(0, .int a0), (1, .int a1)], [.int (1 : Int32)], LAY, S)) (by rfl) ?_
            have e9 := Option.some.inj hf; subst e9
            exact aRetI hC hT hF rfl rfl
  · have hf := aIfT hf hc1
    refine aRun_ok hC hT 2 (cf' := (46, [(0, .int a0), (1, .int a1)], [.int (0 : Int32)], LAY, S)) (by rfl) ?_
    have e9 := Option.some.inj hf; subst e9
    exact aRetI hC hT hF rfl rfl
