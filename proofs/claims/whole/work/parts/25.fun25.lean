def X11_signs_42_b201 (N : Nat) (S : aSt) (rec177 : Int32 → Int32 → Int32 → Option (Int32)) (v2 : Int32) (v5 : Int32) (s0 : Int32) (s1 : Int32) : Option (Int32) := (rec177 v2 (s1 ||| s0) (v5 + (1 : Int32)))
set_option maxHeartbeats 4000000 in
set_option maxRecDepth 100000 in
theorem X11_signs_42_b201_ok {C : aC} {N : Nat} {S : aSt} {rec177 : Int32 → Int32 → Int32 → Option (Int32)} (hC : aCx C M_X11_signs) {r : Int32} (hF : aFin C (some (.int r)) LAY S 0 0) (hrec177 : ∀ (v2 : Int32) (v4 : Int32) (v5 : Int32), rec177 v2 v4 v5 = (some r) → aX C M_X11_signs 0 0 (177, [(2, .int v2), (4, .int v4), (5, .int v5)], [], LAY, S)) (v2 : Int32) (v5 : Int32) (s0 : Int32) (s1 : Int32) (hf : X11_signs_42_b201 N S rec177 v2 v5 s0 s1 = (some r)) : aX C M_X11_signs 0 0 (201, [(2, .int v2), (5, .int v5)], [.int s0, .int s1], LAY, S) := by
  have hT := ok_X11_signs
  unfold X11_signs_42_b201 at hf
  refine aRun_ok hC hT 4 (cf' := (177, [(5, .int (v5 + (1 : Int32))), (4, .int (s1 ||| s0)), (2, .int v2)], [], LAY, S)) (by rfl) ?_
  refine aLocs [2, 1, 0] (lv' := [(2, .int v2), (4, .int (s1 ||| s0)), (5, .int (v5 + (1 : Int32)))]) rfl ?_
  exact hrec177 v2 (s1 ||| s0) (v5 + (1 : Int32)) hf
def X11_signs_42_b177 (N : Nat) (S : aSt) (rec177 : Int32 → Int32 → Int32 → Option (Int32)) (v2 : Int32) (v4 : Int32) (v5 : Int32) : Option (Int32) := (if (6 : Int32) ≤ v5 then some (v4) else (Option.bind (X11_power N v5) (fun w10 => (if w10 = v2 then (X11_signs_42_b201 N S rec177 v2 v5 (8 : Int32) v4) else (X11_signs_42_b201 N S rec177 v2 v5 (0 : Int32) v4)))))
set_option maxHeartbeats 4000000 in
set_option maxRecDepth 100000 in
theorem X11_signs_42_b177_ok {C : aC} {N : Nat} {S : aSt} {rec177 : Int32 → Int32 → Int32 → Option (Int32)} (hC : aCx C M_X11_signs) {r : Int32} (hF : aFin C (some (.int r)) LAY S 0 0) (hrec177 : ∀ (v2 : Int32) (v4 : Int32) (v5 : Int32), rec177 v2 v4 v5 = (some r) → aX C M_X11_signs 0 0 (177, [(2, .int v2), (4, .int v4), (5, .int v5)], [], LAY, S)) (v2 : Int32) (v4 : Int32) (v5 : Int32) (hf : X11_signs_42_b177 N S rec177 v2 v4 v5 = (some r)) : aX C M_X11_signs 0 0 (177, [(2, .int v2), (4, .int v4), (5, .int v5)], [], LAY, S) := by
  have hT := ok_X11_signs
  unfold X11_signs_42_b177 at hf
  refine aRun_ok hC hT 2 (cf' := (181, [(2, .int v2), (4, .int v4), (5, .int v5)], [.int (6 : Int32), .int v5], LAY, S)) (by rfl) ?_
  refine aCmp_ge hC hT (tgt := 210) rfl (by decide) (fun hc9 => ?_) (fun hc9 => ?_)
  · have hf := aIfT hf hc9
    refine aRun_ok hC hT 1 (cf' := (212, [(2, .int v2), (4, .int v4), (5, .int v5)], [.int v4], LAY, S)) (by rfl) ?_
    have e9 := Option.some.inj hf; subst e9
    exact aRetI hC hT hF rfl rfl
  · have hf := aIfF hf hc9
    refine aRun_ok hC hT 2 (cf' := (188, [(2, .int v2), (4, .int v4), (5, .int v5)], [.int v5, .int v4], LAY, S)) (by rfl) ?_
    obtain ⟨w10, ew11, hf⟩ := aBnE hf
    refine aCallS (As := [.int v5]) (rest := [.int v4]) hC hT rfl k_X11_signs_175.1 _ k_X11_signs_175.2 (by rfl) (Nat.le_of_ble_eq_true rfl) (by decide) (J_X11_power C.2.2.1 C.1 N v5 S ew11) ?_
    refine aRun_ok hC hT 1 (cf' := (192, [(2, .int v2), (4, .int v4), (5, .int v5)], [.int v2, .int w10, .int v4], LAY, S)) (by rfl) ?_
    refine aCmp_ne hC hT (tgt := 200) rfl (by decide) (fun hc12 => ?_) (fun hc12 => ?_)
    · have hf := aIfF hf hc12
      refine aRun_ok hC hT 1 (cf' := (201, [(2, .int v2), (4, .int v4), (5, .int v5)], [.int (0 : Int32), .int v4], LAY, S)) (by rfl) ?_
      refine aLocs [0, 2] (lv' := [(2, .int v2), (5, .int v5)]) rfl ?_
      exact X11_signs_42_b201_ok hC hF hrec177 v2 v5 (0 : Int32) v4 hf
    · have hf := aIfT hf hc12
      refine aRun_ok hC hT 2 (cf' := (201, [(2, .int v2), (4, .int v4), (5, .int v5)], [.int (8 : Int32), .int v4], LAY, S)) (by rfl) ?_
      refine aLocs [0, 2] (lv' := [(2, .int v2), (5, .int v5)]) rfl ?_
      exact X11_signs_42_b201_ok hC hF hrec177 v2 v5 (8 : Int32) v4 hf
def X11_signs_42_l177 (N : Nat) (S : aSt) : Nat → Int32 → Int32 → Int32 → Option (Int32)
  | 0 => fun _ _ _ => none
  | n + 1 => X11_signs_42_b177 N S (X11_signs_42_l177 N S n)
theorem X11_signs_42_l177_ok {C : aC} {N : Nat} {S : aSt} (hC : aCx C M_X11_signs) {r : Int32} (hF : aFin C (some (.int r)) LAY S 0 0) : ∀ (n : Nat) (v2 : Int32) (v4 : Int32) (v5 : Int32), X11_signs_42_l177 N S n v2 v4 v5 = (some r) → aX C M_X11_signs 0 0 (177, [(2, .int v2), (4, .int v4), (5, .int v5)], [], LAY, S)
  | 0, _, _, _,  h => nomatch (show (none : Option (Int32)) = some _ from h)
  | n + 1, v2, v4, v5,  h => X11_signs_42_b177_ok hC hF (fun v2 v4 v5 h => X11_signs_42_l177_ok hC hF n v2 v4 v5 h) v2 v4 v5 h
def X11_signs_42_b174 (N : Nat) (S : aSt) (v2 : Int32) (v4 : Int32) : Option (Int32) := (X11_signs_42_l177 N S N v2 v4 (1 : Int32))
set_option maxHeartbeats 4000000 in
set_option maxRecDepth 100000 in
theorem X11_signs_42_b174_ok {C : aC} {N : Nat} {S : aSt} (hC : aCx C M_X11_signs) {r : Int32} (hF : aFin C (some (.int r)) LAY S 0 0) (v2 : Int32) (v4 : Int32) (hf : X11_signs_42_b174 N S v2 v4 = (some r)) : aX C M_X11_signs 0 0 (174, [(2, .int v2), (4, .int v4)], [], LAY, S) := by
  have hT := ok_X11_signs
  unfold X11_signs_42_b174 at hf
  refine aRun_ok hC hT 2 (cf' := (177, [(5, .int (1 : Int32)), (2, .int v2), (4, .int v4)], [], LAY, S)) (by rfl) ?_
  refine aLocs [1, 2, 0] (lv' := [(2, .int v2), (4, .int v4), (5, .int (1 : Int32))]) rfl ?_
  exact X11_signs_42_l177_ok hC hF N v2 v4 (1 : Int32) hf
def X11_signs_42_b165 (N : Nat) (S : aSt) (rec45 : Int32 → Int32 → Int32 → Int32 → Option (Int32)) (v2 : Int32) (v3 : Int32) (v5 : Int32) (s0 : Int32) (s1 : Int32) : Option (Int32) := (rec45 v2 v3 (s1 ||| s0) (v5 + (1 : Int32)))
set_option maxHeartbeats 4000000 in
set_option maxRecDepth 100000 in
theorem X11_signs_42_b165_ok {C : aC} {N : Nat} {S : aSt} {rec45 : Int32 → Int32 → Int32 → Int32 → Option (Int32)} (hC : aCx C M_X11_signs) {r : Int32} (hF : aFin C (some (.int r)) LAY S 0 0) (hrec45 : ∀ (v2 : Int32) (v3 : Int32) (v4 : Int32) (v5 : Int32), rec45 v2 v3 v4 v5 = (some r) → aX C M_X11_signs 0 0 (45, [(0, .ref 42), (2, .int v2), (3, .int v3), (4, .int v4), (5, .int v5)], [], LAY, S)) (v2 : Int32) (v3 : Int32) (v5 : Int32) (s0 : Int32) (s1 : Int32) (hf : X11_signs_42_b165 N S rec45 v2 v3 v5 s0 s1 = (some r)) : aX C M_X11_signs 0 0 (165, [(0, .ref 42), (2, .int v2), (3, .int v3), (5, .int v5)], [.int s0, .int s1], LAY, S) := by
  have hT := ok_X11_signs
  unfold X11_signs_42_b165 at hf
  refine aRun_ok hC hT 4 (cf' := (45, [(5, .int (v5 + (1 : Int32))), (4, .int (s1 ||| s0)), (0, .ref 42), (2, .int v2), (3, .int v3)], [], LAY, S)) (by rfl) ?_
  refine aLocs [2, 3, 4, 1, 0] (lv' := [(0, .ref 42), (2, .int v2), (3, .int v3), (4, .int (s1 ||| s0)), (5, .int (v5 + (1 : Int32)))]) rfl ?_
  exact hrec45 v2 v3 (s1 ||| s0) (v5 + (1 : Int32)) hf
def X11_signs_42_b159 (N : Nat) (S : aSt) (rec45 : Int32 → Int32 → Int32 → Int32 → Option (Int32)) (v2 : Int32) (v3 : Int32) (v5 : Int32) (s0 : Int32) : Option (Int32) := (X11_signs_42_b165 N S rec45 v2 v3 v5 (16 : Int32) s0)
set_option maxHeartbeats 4000000 in
set_option maxRecDepth 100000 in
theorem X11_signs_42_b159_ok {C : aC} {N : Nat} {S : aSt} {rec45 : Int32 → Int32 → Int32 → Int32 → Option (Int32)} (hC : aCx C M_X11_signs) {r : Int32} (hF : aFin C (some (.int r)) LAY S 0 0) (hrec45 : ∀ (v2 : Int32) (v3 : Int32) (v4 : Int32) (v5 : Int32), rec45 v2 v3 v4 v5 = (some r) → aX C M_X11_signs 0 0 (45, [(0, .ref 42), (2, .int v2), (3, .int v3), (4, .int v4), (5, .int v5)], [], LAY, S)) (v2 : Int32) (v3 : Int32) (v5 : Int32) (s0 : Int32) (hf : X11_signs_42_b159 N S rec45 v2 v3 v5 s0 = (some r)) : aX C M_X11_signs 0 0 (159, [(0, .ref 42), (2, .int v2), (3, .int v3), (5, .int v5)], [.int s0], LAY, S) := by
  have hT := ok_X11_signs
  unfold X11_signs_42_b159 at hf
  refine aRun_ok hC hT 2 (cf' := (165, [(0, .ref 42), (2, .int v2), (3, .int v3), (5, .int v5)], [.int (16 : Int32), .int s0], LAY, S)) (by rfl) ?_
  exact X11_signs_42_b165_ok hC hF hrec45 v2 v3 v5 (16 : Int32) s0 hf
def X11_signs_42_b128 (N : Nat) (S : aSt) (rec45 : Int32 → Int32 → Int32 → Int32 → Option (Int32)) (v2 : Int32) (v3 : Int32) (v5 : Int32) (v6 : Int32) (s0 : Int32) (s1 : Int32) : Option (Int32) := (if ((9 : Int32) * v6) = v2 then (X11_signs_42_b159 N S rec45 v2 v3 v5 (s1 ||| s0)) else (if (lg_cmp ((10 : Int64) * (v2.toInt64)) ((9 : Int64) * (v6.toInt64))) = (0 : Int32) then (X11_signs_42_b159 N S rec45 v2 v3 v5 (s1 ||| s0)) else (X11_signs_42_b165 N S rec45 v2 v3 v5 (0 : Int32) (s1 ||| s0))))
set_option maxHeartbeats 4000000 in
set_option maxRecDepth 100000 in
theorem X11_signs_42_b128_ok {C : aC} {N : Nat} {S : aSt} {rec45 : Int32 → Int32 → Int32 → Int32 → Option (Int32)} (hC : aCx C M_X11_signs) {r : Int32} (hF : aFin C (some (.int r)) LAY S 0 0) (hrec45 : ∀ (v2 : Int32) (v3 : Int32) (v4 : Int32) (v5 : Int32), rec45 v2 v3 v4 v5 = (some r) → aX C M_X11_signs 0 0 (45, [(0, .ref 42), (2, .int v2), (3, .int v3), (4, .int v4), (5, .int v5)], [], LAY, S)) (v2 : Int32) (v3 : Int32) (v5 : Int32) (v6 : Int32) (s0 : Int32) (s1 : Int32) (hf : X11_signs_42_b128 N S rec45 v2 v3 v5 v6 s0 s1 = (some r)) : aX C M_X11_signs 0 0 (128, [(0, .ref 42), (2, .int v2), (3, .int v3), (5, .int v5), (6, .int v6)], [.int s0, .int s1], LAY, S) := by
  have hT := ok_X11_signs
  unfold X11_signs_42_b128 at hf
  refine aRun_ok hC hT 7 (cf' := (139, [(4, .int (s1 ||| s0)), (0, .ref 42), (2, .int v2), (3, .int v3), (5, .int v5), (6, .int v6)], [.int v2, .int ((9 : Int32) * v6), .int (s1 ||| s0)], LAY, S)) (by rfl) ?_
  refine aCmp_eq hC hT (tgt := 159) rfl (by decide) (fun hc18 => ?_) (fun hc18 => ?_)
  · have hf := aIfT hf hc18
    refine aLocs [1, 2, 3, 4] (lv' := [(0, .ref 42), (2, .int v2), (3, .int v3), (5, .int v5)]) rfl ?_
    exact X11_signs_42_b159_ok hC hF hrec45 v2 v3 v5 (s1 ||| s0) hf
  · have hf := aIfF hf hc18
    refine aRun_ok hC hT 9 (cf' := (156, [(4, .int (s1 ||| s0)), (0, .ref 42), (2, .int v2), (3, .int v3), (5, .int v5), (6, .int v6)], [.int (lg_cmp ((10 : Int64) * (v2.toInt64)) ((9 : Int64) * (v6.toInt64))), .int (s1 ||| s0)], LAY, S)) (by rfl) ?_
    refine aIf_ne hC hT (tgt := 164) rfl (by decide) (fun hc19 => ?_) (fun hc19 => ?_)
    · have hf := aIfF hf hc19
      refine aRun_ok hC hT 1 (cf' := (165, [(4, .int (s1 ||| s0)), (0, .ref 42), (2, .int v2), (3, .int v3), (5, .int v5), (6, .int v6)], [.int (0 : Int32), .int (s1 ||| s0)], LAY, S)) (by rfl) ?_
      refine aLocs [1, 2, 3, 4] (lv' := [(0, .ref 42), (2, .int v2), (3, .int v3), (5, .int v5)]) rfl ?_
      exact X11_signs_42_b165_ok hC hF hrec45 v2 v3 v5 (0 : Int32) (s1 ||| s0) hf
    · have hf := aIfT hf hc19
      refine aLocs [1, 2, 3, 4] (lv' := [(0, .ref 42), (2, .int v2), (3, .int v3), (5, .int v5)]) rfl ?_
      exact X11_signs_42_b159_ok hC hF hrec45 v2 v3 v5 (s1 ||| s0) hf
def X11_signs_42_b127 (N : Nat) (S : aSt) (rec45 : Int32 → Int32 → Int32 → Int32 → Option (Int32)) (v2 : Int32) (v3 : Int32) (v5 : Int32) (v6 : Int32) (s0 : Int32) : Option (Int32) := (X11_signs_42_b128 N S rec45 v2 v3 v5 v6 (0 : Int32) s0)
set_option maxHeartbeats 4000000 in
set_option maxRecDepth 100000 in
theorem X11_signs_42_b127_ok {C : aC} {N : Nat} {S : aSt} {rec45 : Int32 → Int32 → Int32 → Int32 → Option (Int32)} (hC : aCx C M_X11_signs) {r : Int32} (hF : aFin C (some (.int r)) LAY S 0 0) (hrec45 : ∀ (v2 : Int32) (v3 : Int32) (v4 : Int32) (v5 : Int32), rec45 v2 v3 v4 v5 = (some r) → aX C M_X11_signs 0 0 (45, [(0, .ref 42), (2, .int v2), (3, .int v3), (4, .int v4), (5, .int v5)], [], LAY, S)) (v2 : Int32) (v3 : Int32) (v5 : Int32) (v6 : Int32) (s0 : Int32) (hf : X11_signs_42_b127 N S rec45 v2 v3 v5 v6 s0 = (some r)) : aX C M_X11_signs 0 0 (127, [(0, .ref 42), (2, .int v2), (3, .int v3), (5, .int v5), (6, .int v6)], [.int s0], LAY, S) := by
  have hT := ok_X11_signs
  unfold X11_signs_42_b127 at hf
  refine aRun_ok hC hT 1 (cf' := (128, [(0, .ref 42), (2, .int v2), (3, .int v3), (5, .int v5), (6, .int v6)], [.int (0 : Int32), .int s0], LAY, S)) (by rfl) ?_
  exact X11_signs_42_b128_ok hC hF hrec45 v2 v3 v5 v6 (0 : Int32) s0 hf
def X11_signs_42_b107 (N : Nat) (S : aSt) (rec45 : Int32 → Int32 → Int32 → Int32 → Option (Int32)) (v2 : Int32) (v3 : Int32) (v5 : Int32) (v6 : Int32) (v7 : Int32) (s0 : Int32) (s1 : Int32) : Option (Int32) := (if v7 = (0 : Int32) then (X11_signs_42_b127 N S rec45 v2 v3 v5 v6 (s1 ||| s0)) else (if v6 = v2 then (X11_signs_42_b128 N S rec45 v2 v3 v5 v6 (4 : Int32) (s1 ||| s0)) else (X11_signs_42_b127 N S rec45 v2 v3 v5 v6 (s1 ||| s0))))
set_option maxHeartbeats 4000000 in
set_option maxRecDepth 100000 in
theorem X11_signs_42_b107_ok {C : aC} {N : Nat} {S : aSt} {rec45 : Int32 → Int32 → Int32 → Int32 → Option (Int32)} (hC : aCx C M_X11_signs) {r : Int32} (hF : aFin C (some (.int r)) LAY S 0 0) (hrec45 : ∀ (v2 : Int32) (v3 : Int32) (v4 : Int32) (v5 : Int32), rec45 v2 v3 v4 v5 = (some r) → aX C M_X11_signs 0 0 (45, [(0, .ref 42), (2, .int v2), (3, .int v3), (4, .int v4), (5, .int v5)], [], LAY, S)) (v2 : Int32) (v3 : Int32) (v5 : Int32) (v6 : Int32) (v7 : Int32) (s0 : Int32) (s1 : Int32) (hf : X11_signs_42_b107 N S rec45 v2 v3 v5 v6 v7 s0 s1 = (some r)) : aX C M_X11_signs 0 0 (107, [(0, .ref 42), (2, .int v2), (3, .int v3), (5, .int v5), (6, .int v6), (7, .int v7)], [.int s0, .int s1], LAY, S) := by
  have hT := ok_X11_signs
  unfold X11_signs_42_b107 at hf
  refine aRun_ok hC hT 4 (cf' := (114, [(4, .int (s1 ||| s0)), (0, .ref 42), (2, .int v2), (3, .int v3), (5, .int v5), (6, .int v6), (7, .int v7)], [.int v7, .int (s1 ||| s0)], LAY, S)) (by rfl) ?_
  refine aIf_eq hC hT (tgt := 127) rfl (by decide) (fun hc17 => ?_) (fun hc17 => ?_)
  · have hf := aIfT hf hc17
    refine aLocs [1, 2, 3, 4, 5] (lv' := [(0, .ref 42), (2, .int v2), (3, .int v3), (5, .int v5), (6, .int v6)]) rfl ?_
    exact X11_signs_42_b127_ok hC hF hrec45 v2 v3 v5 v6 (s1 ||| s0) hf
  · have hf := aIfF hf hc17
    refine aRun_ok hC hT 2 (cf' := (120, [(4, .int (s1 ||| s0)), (0, .ref 42), (2, .int v2), (3, .int v3), (5, .int v5), (6, .int v6), (7, .int v7)], [.int v2, .int v6, .int (s1 ||| s0)], LAY, S)) (by rfl) ?_
    refine aCmp_ne hC hT (tgt := 127) rfl (by decide) (fun hc20 => ?_) (fun hc20 => ?_)
    · have hf := aIfF hf hc20
      refine aLocs [1, 2, 3, 4, 5] (lv' := [(0, .ref 42), (2, .int v2), (3, .int v3), (5, .int v5), (6, .int v6)]) rfl ?_
      exact X11_signs_42_b127_ok hC hF hrec45 v2 v3 v5 v6 (s1 ||| s0) hf
    · have hf := aIfT hf hc20
      refine aRun_ok hC hT 2 (cf' := (128, [(4, .int (s1 ||| s0)), (0, .ref 42), (2, .int v2), (3, .int v3), (5, .int v5), (6, .int v6), (7, .int v7)], [.int (4 : Int32), .int (s1 ||| s0)], LAY, S)) (by rfl) ?_
      refine aLocs [1, 2, 3, 4, 5] (lv' := [(0, .ref 42), (2, .int v2), (3, .int v3), (5, .int v5), (6, .int v6)]) rfl ?_
      exact X11_signs_42_b128_ok hC hF hrec45 v2 v3 v5 v6 (4 : Int32) (s1 ||| s0) hf
def X11_signs_42_b106 (N : Nat) (S : aSt) (rec45 : Int32 → Int32 → Int32 → Int32 → Option (Int32)) (v2 : Int32) (v3 : Int32) (v5 : Int32) (v6 : Int32) (v7 : Int32) (s0 : Int32) : Option (Int32) := (X11_signs_42_b107 N S rec45 v2 v3 v5 v6 v7 (0 : Int32) s0)
set_option maxHeartbeats 4000000 in
set_option maxRecDepth 100000 in
theorem X11_signs_42_b106_ok {C : aC} {N : Nat} {S : aSt} {rec45 : Int32 → Int32 → Int32 → Int32 → Option (Int32)} (hC : aCx C M_X11_signs) {r : Int32} (hF : aFin C (some (.int r)) LAY S 0 0) (hrec45 : ∀ (v2 : Int32) (v3 : Int32) (v4 : Int32) (v5 : Int32), rec45 v2 v3 v4 v5 = (some r) → aX C M_X11_signs 0 0 (45, [(0, .ref 42), (2, .int v2), (3, .int v3), (4, .int v4), (5, .int v5)], [], LAY, S)) (v2 : Int32) (v3 : Int32) (v5 : Int32) (v6 : Int32) (v7 : Int32) (s0 : Int32) (hf : X11_signs_42_b106 N S rec45 v2 v3 v5 v6 v7 s0 = (some r)) : aX C M_X11_signs 0 0 (106, [(0, .ref 42), (2, .int v2), (3, .int v3), (5, .int v5), (6, .int v6), (7, .int v7)], [.int s0], LAY, S) := by
  have hT := ok_X11_signs
  unfold X11_signs_42_b106 at hf
  refine aRun_ok hC hT 1 (cf' := (107, [(0, .ref 42), (2, .int v2), (3, .int v3), (5, .int v5), (6, .int v6), (7, .int v7)], [.int (0 : Int32), .int s0], LAY, S)) (by rfl) ?_
  exact X11_signs_42_b107_ok hC hF hrec45 v2 v3 v5 v6 v7 (0 : Int32) s0 hf
def X11_signs_42_b85 (N : Nat) (S : aSt) (rec45 : Int32 → Int32 → Int32 → Int32 → Option (Int32)) (v2 : Int32) (v3 : Int32) (v4 : Int32) (v5 : Int32) (v6 : Int32) (s0 : Int32) : Option (Int32) := (if s0 = (0 : Int32) then (X11_signs_42_b106 N S rec45 v2 v3 v5 v6 s0 v4) else (if ((2 : Int32) * v6) = v2 then (X11_signs_42_b107 N S rec45 v2 v3 v5 v6 s0 (2 : Int32) v4) else (X11_signs_42_b106 N S rec45 v2 v3 v5 v6 s0 v4)))
set_option maxHeartbeats 4000000 in
set_option maxRecDepth 100000 in
theorem X11_signs_42_b85_ok {C : aC} {N : Nat} {S : aSt} {rec45 : Int32 → Int32 → Int32 → Int32 → Option (Int32)} (hC : aCx C M_X11_signs) {r : Int32} (hF : aFin C (some (.int r)) LAY S 0 0) (hrec45 : ∀ (v2 : Int32) (v3 : Int32) (v4 : Int32) (v5 : Int32), rec45 v2 v3 v4 v5 = (some r) → aX C M_X11_signs 0 0 (45, [(0, .ref 42), (2, .int v2), (3, .int v3), (4, .int v4), (5, .int v5)], [], LAY, S)) (v2 : Int32) (v3 : Int32) (v4 : Int32) (v5 : Int32) (v6 : Int32) (s0 : Int32) (hf : X11_signs_42_b85 N S rec45 v2 v3 v4 v5 v6 s0 = (some r)) : aX C M_X11_signs 0 0 (85, [(0, .ref 42), (2, .int v2), (3, .int v3), (4, .int v4), (5, .int v5), (6, .int v6)], [.int s0], LAY, S) := by
  have hT := ok_X11_signs
  unfold X11_signs_42_b85 at hf
  refine aRun_ok hC hT 3 (cf' := (91, [(7, .int s0), (0, .ref 42), (2, .int v2), (3, .int v3), (4, .int v4), (5, .int v5), (6, .int v6)], [.int s0, .int v4], LAY, S)) (by rfl) ?_
  refine aIf_eq hC hT (tgt := 106) rfl (by decide) (fun hc16 => ?_) (fun hc16 => ?_)
  · have hf := aIfT hf hc16
    refine aLocs [1, 2, 3, 5, 6, 0] (lv' := [(0, .ref 42), (2, .int v2), (3, .int v3), (5, .int v5), (6, .int v6), (7, .int s0)]) rfl ?_
    exact X11_signs_42_b106_ok hC hF hrec45 v2 v3 v5 v6 s0 v4 hf
  · have hf := aIfF hf hc16
    refine aRun_ok hC hT 4 (cf' := (99, [(7, .int s0), (0, .ref 42), (2, .int v2), (3, .int v3), (4, .int v4), (5, .int v5), (6, .int v6)], [.int v2, .int ((2 : Int32) * v6), .int v4], LAY, S)) (by rfl) ?_
    refine aCmp_ne hC hT (tgt := 106) rfl (by decide) (fun hc21 => ?_) (fun hc21 => ?_)
    · have hf := aIfF hf hc21
      refine aLocs [1, 2, 3, 5, 6, 0] (lv' := [(0, .ref 42), (2, .int v2), (3, .int v3), (5, .int v5), (6, .int v6), (7, .int s0)]) rfl ?_
      exact X11_signs_42_b106_ok hC hF hrec45 v2 v3 v5 v6 s0 v4 hf
    · have hf := aIfT hf hc21
      refine aRun_ok hC hT 2 (cf' := (107, [(7, .int s0), (0, .ref 42), (2, .int v2), (3, .int v3), (4, .int v4), (5, .int v5), (6, .int v6)], [.int (2 : Int32), .int v4], LAY, S)) (by rfl) ?_
      refine aLocs [1, 2, 3, 5, 6, 0] (lv' := [(0, .ref 42), (2, .int v2), (3, .int v3), (5, .int v5), (6, .int v6), (7, .int s0)]) rfl ?_
      exact X11_signs_42_b107_ok hC hF hrec45 v2 v3 v5 v6 s0 (2 : Int32) v4 hf
def X11_signs_42_b45 (N : Nat) (S : aSt) (rec45 : Int32 → Int32 → Int32 → Int32 → Option (Int32)) (v2 : Int32) (v3 : Int32) (v4 : Int32) (v5 : Int32) : Option (Int32) := (if (S.1 42 5) ≤ v5 then (X11_signs_42_b174 N S v2 v4) else (if aIx (((5 : Int32) * v5) + (1 : Int32)) 150 = true then (if aIx ((5 : Int32) * v5) 150 = true then (if ((S.2.2 45) ((5 : Int32) * v5).toNatClampNeg) = v3 then (X11_signs_42_b85 N S rec45 v2 v3 v4 v5 ((S.2.2 45) (((5 : Int32) * v5) + (1 : Int32)).toNatClampNeg) (1 : Int32)) else (X11_signs_42_b85 N S rec45 v2 v3 v4 v5 ((S.2.2 45) (((5 : Int32) * v5) + (1 : Int32)).toNatClampNeg) (0 : Int32))) else none) else none))
set_option maxHeartbeats 4000000 in
set_option maxRecDepth 100000 in
theorem X11_signs_42_b45_ok {C : aC} {N : Nat} {S : aSt} {rec45 : Int32 → Int32 → Int32 → Int32 → Option (Int32)} (hC : aCx C M_X11_signs) {r : Int32} (hF : aFin C (some (.int r)) LAY S 0 0) (hrec45 : ∀ (v2 : Int32) (v3 : Int32) (v4 : Int32) (v5 : Int32), rec45 v2 v3 v4 v5 = (some r) → aX C M_X11_signs 0 0 (45, [(0, .ref 42), (2, .int v2), (3, .int v3), (4, .int v4), (5, .int v5)], [], LAY, S)) (v2 : Int32) (v3 : Int32) (v4 : Int32) (v5 : Int32) (hf : X11_signs_42_b45 N S rec45 v2 v3 v4 v5 = (some r)) : aX C M_X11_signs 0 0 (45, [(0, .ref 42), (2, .int v2), (3, .int v3), (4, .int v4), (5, .int v5)], [], LAY, S) := by
  have hT := ok_X11_signs
  unfold X11_signs_42_b45 at hf
  refine aRun_ok hC hT 3 (cf' := (51, [(0, .ref 42), (2, .int v2), (3, .int v3), (4, .int v4), (5, .int v5)], [.int (S.1 42 5), .int v5], LAY, S)) (by rfl) ?_
  refine aCmp_ge hC hT (tgt := 174) rfl (by decide) (fun hc8 => ?_) (fun hc8 => ?_)
  · have hf := aIfT hf hc8
    refine aLocs [1, 3] (lv' := [(2, .int v2), (4, .int v4)]) rfl ?_
    exact X11_signs_42_b174_ok hC hF v2 v4 hf
  · have hf := aIfF hf hc8
    refine aRun_ok hC hT 7 (cf' := (64, [(0, .ref 42), (2, .int v2), (3, .int v3), (4, .int v4), (5, .int v5)], [.int (((5 : Int32) * v5) + (1 : Int32)), .ref 45], LAY, S)) (by rfl) ?_
    obtain ⟨hin13, hf⟩ := aGdE hf
    refine aIald hC hT rfl (by decide) (by rfl) hin13 ?_
    refine aRun_ok hC hT 6 (cf' := (75, [(6, .int ((S.2.2 45) (((5 : Int32) * v5) + (1 : Int32)).toNatClampNeg)), (0, .ref 42), (2, .int v2), (3, .int v3), (4, .int v4), (5, .int v5)], [.int ((5 : Int32) * v5), .ref 45], LAY, S)) (by rfl) ?_
    obtain ⟨hin14, hf⟩ := aGdE hf
    refine aIald hC hT rfl (by decide) (by rfl) hin14 ?_
    refine aRun_ok hC hT 1 (cf' := (77, [(6, .int ((S.2.2 45) (((5 : Int32) * v5) + (1 : Int32)).toNatClampNeg)), (0, .ref 42), (2, .int v2), (3, .int v3), (4, .int v4), (5, .int v5)], [.int v3, .int ((S.2.2 45) ((5 : Int32) * v5).toNatClampNeg)], LAY, S)) (by rfl) ?_
    refine aCmp_ne hC hT (tgt := 84) rfl (by decide) (fun hc15 => ?_) (fun hc15 => ?_)
    · have hf := aIfF hf hc15
      refine aRun_ok hC hT 1 (cf' := (85, [(6, .int ((S.2.2 45) (((5 : Int32) * v5) + (1 : Int32)).toNatClampNeg)), (0, .ref 42), (2, .int v2), (3, .int v3), (4, .int v4), (5, .int v5)], [.int (0 : Int32)], LAY, S)) (by rfl) ?_
      refine aLocs [1, 2, 3, 4, 5, 0] (lv' := [(0, .ref 42), (2, .int v2), (3, .int v3), (4, .int v4), (5, .int v5), (6, .int ((S.2.2 45) (((5 : Int32) * v5) + (1 : Int32)).toNatClampNeg))]) rfl ?_
      exact X11_signs_42_b85_ok hC hF hrec45 v2 v3 v4 v5 ((S.2.2 45) (((5 : Int32) * v5) + (1 : Int32)).toNatClampNeg) (0 : Int32) hf
    · have hf := aIfT hf hc15
      refine aRun_ok hC hT 2 (cf' := (85, [(6, .int ((S.2.2 45) (((5 : Int32) * v5) + (1 : Int32)).toNatClampNeg)), (0, .ref 42), (2, .int v2), (3, .int v3), (4, .int v4), (5, .int v5)], [.int (1 : Int32)], LAY, S)) (by rfl) ?_
      refine aLocs [1, 2, 3, 4, 5, 0] (lv' := [(0, .ref 42), (2, .int v2), (3, .int v3), (4, .int v4), (5, .int v5), (6, .int ((S.2.2 45) (((5 : Int32) * v5) + (1 : Int32)).toNatClampNeg))]) rfl ?_
      exact X11_signs_42_b85_ok hC hF hrec45 v2 v3 v4 v5 ((S.2.2 45) (((5 : Int32) * v5) + (1 : Int32)).toNatClampNeg) (1 : Int32) hf
def X11_signs_42_l45 (N : Nat) (S : aSt) : Nat → Int32 → Int32 → Int32 → Int32 → Option (Int32)
  | 0 => fun _ _ _ _ => none
  | n + 1 => X11_signs_42_b45 N S (X11_signs_42_l45 N S n)
theorem X11_signs_42_l45_ok {C : aC} {N : Nat} {S : aSt} (hC : aCx C M_X11_signs) {r : Int32} (hF : aFin C (some (.int r)) LAY S 0 0) : ∀ (n : Nat) (v2 : Int32) (v3 : Int32) (v4 : Int32) (v5 : Int32), X11_signs_42_l45 N S n v2 v3 v4 v5 = (some r) → aX C M_X11_signs 0 0 (45, [(0, .ref 42), (2, .int v2), (3, .int v3), (4, .int v4), (5, .int v5)], [], LAY, S)
  | 0, _, _, _, _,  h => nomatch (show (none : Option (Int32)) = some _ from h)
  | n + 1, v2, v3, v4, v5,  h => X11_signs_42_b45_ok hC hF (fun v2 v3 v4 v5 h => X11_signs_42_l45_ok hC hF n v2 v3 v4 v5 h) v2 v3 v4 v5 h
def X11_signs_42_b40 (N : Nat) (S : aSt) (v2 : Int32) (v3 : Int32) (s0 : Int32) : Option (Int32) := (X11_signs_42_l45 N S N v2 v3 s0 (0 : Int32))
set_option maxHeartbeats 4000000 in
set_option maxRecDepth 100000 in
theorem X11_signs_42_b40_ok {C : aC} {N : Nat} {S : aSt} (hC : aCx C M_X11_signs) {r : Int32} (hF : aFin C (some (.int r)) LAY S 0 0) (v2 : Int32) (v3 : Int32) (s0 : Int32) (hf : X11_signs_42_b40 N S v2 v3 s0 = (some r)) : aX C M_X11_signs 0 0 (40, [(0, .ref 42), (2, .int v2), (3, .int v3)], [.int s0], LAY, S) := by
  have hT := ok_X11_signs
  unfold X11_signs_42_b40 at hf
  refine aRun_ok hC hT 3 (cf' := (45, [(5, .int (0 : Int32)), (4, .int s0), (0, .ref 42), (2, .int v2), (3, .int v3)], [], LAY, S)) (by rfl) ?_
  refine aLocs [2, 3, 4, 1, 0] (lv' := [(0, .ref 42), (2, .int v2), (3, .int v3), (4, .int s0), (5, .int (0 : Int32))]) rfl ?_
  exact X11_signs_42_l45_ok hC hF N v2 v3 s0 (0 : Int32) hf
def X11_signs_42_b27 (N : Nat) (S : aSt) (v2 : Int32) (s0 : Int32) : Option (Int32) := (if (v2 - v2 / (9 : Int32) * (9 : Int32)) = (0 : Int32) then (X11_signs_42_b40 N S v2 s0 (1 : Int32)) else (X11_signs_42_b40 N S v2 s0 (0 : Int32)))
set_option maxHeartbeats 4000000 in
set_option maxRecDepth 100000 in
theorem X11_signs_42_b27_ok {C : aC} {N : Nat} {S : aSt} (hC : aCx C M_X11_signs) {r : Int32} (hF : aFin C (some (.int r)) LAY S 0 0) (v2 : Int32) (s0 : Int32) (hf : X11_signs_42_b27 N S v2 s0 = (some r)) : aX C M_X11_signs 0 0 (27, [(0, .ref 42), (2, .int v2)], [.int s0], LAY, S) := by
  have hT := ok_X11_signs
  unfold X11_signs_42_b27 at hf
  refine aRun_ok hC hT 4 (cf' := (32, [(3, .int s0), (0, .ref 42), (2, .int v2)], [.int (v2 - v2 / (9 : Int32) * (9 : Int32))], LAY, S)) (by rfl) ?_
  refine aIf_ne hC hT (tgt := 39) rfl (by decide) (fun hc7 => ?_) (fun hc7 => ?_)
  · have hf := aIfF hf hc7
    refine aRun_ok hC hT 1 (cf' := (40, [(3, .int s0), (0, .ref 42), (2, .int v2)], [.int (0 : Int32)], LAY, S)) (by rfl) ?_
    refine aLocs [1, 2, 0] (lv' := [(0, .ref 42), (2, .int v2), (3, .int s0)]) rfl ?_
    exact X11_signs_42_b40_ok hC hF v2 s0 (0 : Int32) hf
  · have hf := aIfT hf hc7
    refine aRun_ok hC hT 2 (cf' := (40, [(3, .int s0), (0, .ref 42), (2, .int v2)], [.int (1 : Int32)], LAY, S)) (by rfl) ?_
    refine aLocs [1, 2, 0] (lv' := [(0, .ref 42), (2, .int v2), (3, .int s0)]) rfl ?_
    exact X11_signs_42_b40_ok hC hF v2 s0 (1 : Int32) hf
def X11_signs_42 (N : Nat) (S : aSt) : Option (Int32) := (Option.bind (X11_outOf_42 N ((-1) : Int32) S) (fun w1 => (if w1 = (0 : Int32) then some (((-4) : Int32)) else (aLet (X11_size w1) (fun w4 => (if w1 ≤ (0 : Int32) then (X11_signs_42_b27 N S w4 (1 : Int32)) else (X11_signs_42_b27 N S w4 (0 : Int32))))))))
set_option maxHeartbeats 4000000 in
set_option maxRecDepth 100000 in
theorem J_X11_signs_42 (l : Launch) (g : aWg) (N : Nat) (S : aSt) {r : Int32} (hf : X11_signs_42 N S = (some r)) : aJ l g yX11_signs M_X11_signs [.ref 42] LAY S (some (.int r)) LAY S 0 0 := by
  refine aJ_of (by decide +kernel) rfl (Nat.le_of_ble_eq_true rfl) (fun h => nomatch h) ?_
  intro C hg hl hC hz hF
  subst hg; subst hl
  have hT := ok_X11_signs
  unfold X11_signs_42 at hf
  show aX C M_X11_signs 0 0 (0, [(0, .ref 42)], [], LAY, S)
  refine aRun_ok hC hT 2 (cf' := (2, [(0, .ref 42)], [.int ((-1) : Int32), .ref 42], LAY, S)) (by rfl) ?_
  obtain ⟨w1, ew2, hf⟩ := aBnE hf
  refine aCallV (b := 42) (As := [.int ((-1) : Int32)]) (rest := []) hC hT rfl k_X11_signs_155.1 _ _ k_X11_signs_155.2 (by decide) (by rfl) (by rfl) (by rfl) (Nat.le_of_ble_eq_true rfl) (by decide) (J_X11_outOf_42 C.2.2.1 C.1 N ((-1) : Int32) S ew2) ?_
  refine aRun_ok hC hT 2 (cf' := (7, [(1, .int w1), (0, .ref 42)], [.int w1], LAY, S)) (by rfl) ?_
  refine aIf_ne hC hT (tgt := 13) rfl (by decide) (fun hc3 => ?_) (fun hc3 => ?_)
  · have hf := aIfF hf hc3
    refine aRun_ok hC hT 1 (cf' := (14, [(1, .int w1), (0, .ref 42)], [.int w1], LAY, S)) (by rfl) ?_
    obtain ⟨w4, ew5, hf⟩ := aLetE hf
    refine aCallS (As := [.int w1]) (rest := []) hC hT rfl k_X11_signs_208.1 _ k_X11_signs_208.2 (by rfl) (Nat.le_of_ble_eq_true rfl) (by decide) (J_X11_size C.2.2.1 C.1 w1 S ew5) ?_
    refine aRun_ok hC hT 2 (cf' := (19, [(2, .int w4), (1, .int w1), (0, .ref 42)], [.int w1], LAY, S)) (by rfl) ?_
    refine aIf_le hC hT (tgt := 26) rfl (by decide) (fun hc6 => ?_) (fun hc6 => ?_)
    · have hf := aIfT hf hc6
      refine aRun_ok hC hT 1 (cf' := (27, [(2, .int w4), (1, .int w1), (0, .ref 42)], [.int (1 : Int32)], LAY, S)) (by rfl) ?_
      refine aLocs [2, 0] (lv' := [(0, .ref 42), (2, .int w4)]) rfl ?_
      exact X11_signs_42_b27_ok hC hF w4 (1 : Int32) hf
    · have hf := aIfF hf hc6
      refine aRun_ok hC hT 2 (cf' := (27, [(2, .int w4), (1, .int w1), (0, .ref 42)], [.int (0 : Int32)], LAY, S)) (by rfl) ?_
      refine aLocs [2, 0] (lv' := [(0, .ref 42), (2, .int w4)]) rfl ?_
      exact X11_signs_42_b27_ok hC hF w4 (0 : Int32) hf
  · have hf := aIfT hf hc3
    refine aRun_ok hC hT 1 (cf' := (12, [(1, .int w1), (0, .ref 42)], [.int ((-4) : Int32)], LAY, S)) (by rfl) ?_
    have e9 := Option.some.inj hf; subst e9
    exact aRetI hC hT hF rfl rfl
def X11_strike_42_b47 (N : Nat) (S : aSt) : Option (Int32 × aSt) := some ((((S.1 42 5) - (1 : Int32)), (aI S 42 5 ((S.1 42 5) - (1 : Int32)))))
set_option maxHeartbeats 4000000 in
set_option maxRecDepth 100000 in
theorem X11_strike_42_b47_ok {C : aC} {N : Nat} (hC : aCx C M_X11_strike) {r : Int32 × aSt} (hF : aFin C (some (.int r.1)) LAY r.2 0 0) (S : aSt) (hf : X11_strike_42_b47 N S = (some r)) : aX C M_X11_strike 0 0 (47, [(0, .ref 42)], [], LAY, S) := by
  have hT := ok_X11_strike
  unfold X11_strike_42_b47 at hf
  refine aRun_ok hC hT 8 (cf' := (61, [(0, .ref 42)], [.int ((S.1 42 5) - (1 : Int32))], LAY, (aI S 42 5 ((S.1 42 5) - (1 : Int32))))) (by rfl) ?_
  have e9 := Option.some.inj hf; subst e9
  exact aRetI hC hT hF rfl rfl
def X11_strike_42_b15 (N : Nat) (rec15 : Int32 → aSt → Option (Int32 × aSt)) (v2 : Int32) (S : aSt) : Option (Int32 × aSt) := (if (((5 : Int32) * (S.1 42 5)) - (5 : Int32)) ≤ v2 then (X11_strike_42_b47 N S) else (if aIx (v2 + (5 : Int32)) 150 = true then (if aIx v2 150 = true then (rec15 (v2 + (1 : Int32)) (aA S 45 (upd (S.2.2 45) v2.toNatClampNeg ((S.2.2 45) (v2 + (5 : Int32)).toNatClampNeg)))) else none) else none))
set_option maxHeartbeats 4000000 in
set_option maxRecDepth 100000 in
theorem X11_strike_42_b15_ok {C : aC} {N : Nat} {rec15 : Int32 → aSt → Option (Int32 × aSt)} (hC : aCx C M_X11_strike) {r : Int32 × aSt} (hF : aFin C (some (.int r.1)) LAY r.2 0 0) (hrec15 : ∀ (v2 : Int32) (S : aSt), rec15 v2 S = (some r) → aX C M_X11_strike 0 0 (15, [(0, .ref 42), (2, .int v2)], [], LAY, S)) (v2 : Int32) (S : aSt) (hf : X11_strike_42_b15 N rec15 v2 S = (some r)) : aX C M_X11_strike 0 0 (15, [(0, .ref 42), (2, .int v2)], [], LAY, S) := by
  have hT := ok_X11_strike
  unfold X11_strike_42_b15 at hf
  refine aRun_ok hC hT 7 (cf' := (24, [(0, .ref 42), (2, .int v2)], [.int (((5 : Int32) * (S.1 42 5)) - (5 : Int32)), .int v2], LAY, S)) (by rfl) ?_
  refine aCmp_ge hC hT (tgt := 47) rfl (by decide) (fun hc4 => ?_) (fun hc4 => ?_)
  · have hf := aIfT hf hc4
    refine aLocs [0] (lv' := [(0, .ref 42)]) rfl ?_
    exact X11_strike_42_b47_ok hC hF S hf
  · have hf := aIfF hf hc4
    refine aRun_ok hC hT 8 (cf' := (39, [(0, .ref 42), (2, .int v2)], [.int (v2 + (5 : Int32)), .ref 45, .int v2, .ref 45], LAY, S)) (by rfl) ?_
    obtain ⟨hin5, hf⟩ := aGdE hf
    refine aIald hC hT rfl (by decide) (by rfl) hin5 ?_
    obtain ⟨hin6, hf⟩ := aGdE hf
    refine aIast hC hT rfl (by decide) (by rfl) hin6 ?_
    refine aRun_ok hC hT 2 (cf' := (15, [(2, .int (v2 + (1 : Int32))), (0, .ref 42)], [], LAY, (aA S 45 (upd (S.2.2 45) v2.toNatClampNeg ((S.2.2 45) (v2 + (5 : Int32)).toNatClampNeg))))) (by rfl) ?_
    refine aLocs [1, 0] (lv' := [(0, .ref 42), (2, .int (v2 + (1 : Int32)))]) rfl ?_
    exact hrec15 (v2 + (1 : Int32)) (aA S 45 (upd (S.2.2 45) v2.toNatClampNeg ((S.2.2 45) (v2 + (5 : Int32)).toNatClampNeg))) hf
def X11_strike_42_l15 (N : Nat) : Nat → Int32 → aSt → Option (Int32 × aSt)
  | 0 => fun _ _ => none
  | n + 1 => X11_strike_42_b15 N (X11_strike_42_l15 N n)
theorem X11_strike_42_l15_ok {C : aC} {N : Nat} (hC : aCx C M_X11_strike) {r : Int32 × aSt} (hF : aFin C (some (.int r.1)) LAY r.2 0 0) : ∀ (n : Nat) (v2 : Int32) (S : aSt), X11_strike_42_l15 N n v2 S = (some r) → aX C M_X11_strike 0 0 (15, [(0, .ref 42), (2, .int v2)], [], LAY, S)
  | 0, _, _,  h => nomatch (show (none : Option (Int32 × aSt)) = some _ from h)
  | n + 1, v2, S,  h => X11_strike_42_b15_ok hC hF (fun v2 S h => X11_strike_42_l15_ok hC hF n v2 S h) v2 S h
def X11_strike_42 (N : Nat) (a1 : Int32) (S : aSt) : Option (Int32 × aSt) := (Option.bind (X11_isEntry_42 N a1 S) (fun w1 => (if w1 = (0 : Int32) then some ((((-2) : Int32), S)) else (X11_strike_42_l15 N N ((5 : Int32) * a1) S))))
set_option maxHeartbeats 4000000 in
set_option maxRecDepth 100000 in
theorem J_X11_strike_42 (l : Launch) (g : aWg) (N : Nat) (a1 : Int32) (S : aSt) {r : Int32 × aSt} (hf : X11_strike_42 N a1 S = (some r)) : aJ l g yX11_strike M_X11_strike [.ref 42, .int a1] LAY S (some (.int r.1)) LAY r.2 0 0 := by
  refine aJ_of (by decide +kernel) rfl (Nat.le_of_ble_eq_true rfl) (fun h => nomatch h) ?_
  intro C hg hl hC hz hF
  subst hg; subst hl
  have hT := ok_X11_strike
  unfold X11_strike_42 at hf
  show aX C M_X11_strike 0 0 (0, [(0, .ref 42), (1, .int a1)], [], LAY, S)
  refine aRun_ok hC hT 2 (cf' := (2, [(0, .ref 42), (1, .int a1)], [.int a1, .ref 42], LAY, S)) (by rfl) ?_
  obtain ⟨w1, ew2, hf⟩ := aBnE hf
  refine aCallV (b := 42) (As := [.int a1]) (rest := []) hC hT rfl k_X11_strike_146.1 _ _ k_X11_strike_146.2 (by decide) (by rfl) (by rfl) (by rfl) (Nat.le_of_ble_eq_true rfl) (by decide) (J_X11_isEntry_42 C.2.2.1 C.1 N a1 S ew2) ?_
  refine aIf_ne hC hT (tgt := 11) rfl (by decide) (fun hc3 => ?_) (fun hc3 => ?_)
  · have hf := aIfF hf hc3
    refine aRun_ok hC hT 4 (cf' := (15, [(2, .int ((5 : Int32) * a1)), (0, .ref 42), (1, .int a1)], [], LAY, S)) (by rfl) ?_
    refine aLocs [1, 0] (lv' := [(0, .ref 42), (2, .int ((5 : Int32) * a1))]) rfl ?_
    exact X11_strike_42_l15_ok hC hF N ((5 : Int32) * a1) S hf
  · have hf := aIfT hf hc3
    refine aRun_ok hC hT 1 (cf' := (10, [(0, .ref 42), (1, .int a1)], [.int ((-2) : Int32)], LAY, S)) (by rfl) ?_
    have e9 := Option.some.inj hf; subst e9
    exact aRetI hC hT hF rfl rfl
def X11_two_42 (N : Nat) (a1 : Int32) (S : aSt) : Option (Int64 × aSt) := (aLet (X11_in (a1.toInt64) (0 : Int64) (1 : Int64)) (fun w1 => (if w1 = (0 : Int32) then some ((((-3) : Int64), S)) else (Option.bind (X11_layTwo_42 N (0 : Int32) S) (fun w4 => (if a1 = (0 : Int32) then some (((w4.2.1 42 26), w4)) else some (((w4.2.1 42 27), w4))))))))
set_option maxHeartbeats 4000000 in
set_option maxRecDepth 100000 in
theorem J_X11_two_42 (l : Launch) (g : aWg) (N : Nat) (a1 : Int32) (S : aSt) {r : Int64 × aSt} (hf : X11_two_42 N a1 S = (some r)) : aJ l g yX11_two M_X11_two [.ref 42, .int a1] LAY S (some (.long r.1)) LAY r.2 0 0 := by
  refine aJ_of (by decide +kernel) rfl (Nat.le_of_ble_eq_true rfl) (fun h => nomatch h) ?_
  intro C hg hl hC hz hF
  subst hg; subst hl
  have hT := ok_X11_two
  unfold X11_two_42 at hf
  show aX C M_X11_two 0 0 (0, [(0, .ref 42), (1, .int a1)], [], LAY, S)
  refine aRun_ok hC hT 4 (cf' := (4, [(0, .ref 42), (1, .int a1)], [.long (1 : Int64), .long (0 : Int64), .long (a1.toInt64)], LAY, S)) (by rfl) ?_
  obtain ⟨w1, ew2, hf⟩ := aLetE hf
  refine aCallS (As := [.long (a1.toInt64), .long (0 : Int64), .long (1 : Int64)]) (rest := []) hC hT rfl k_X11_two_70.1 _ k_X11_two_70.2 (by rfl) (Nat.le_of_ble_eq_true rfl) (by decide) (J_X11_in C.2.2.1 C.1 (a1.toInt64) (0 : Int64) (1 : Int64) S ew2) ?_
  refine aIf_ne hC hT (tgt := 14) rfl (by decide) (fun hc3 => ?_) (fun hc3 => ?_)
  · have hf := aIfF hf hc3
    refine aRun_ok hC hT 2 (cf' := (16, [(0, .ref 42), (1, .int a1)], [.int (0 : Int32), .ref 42], LAY, S)) (by rfl) ?_
    obtain ⟨w4, ew5, hf⟩ := aBnE hf
    refine aCallV (b := 42) (As := [.int (0 : Int32)]) (rest := []) hC hT rfl k_X11_two_254.1 _ _ k_X11_two_254.2 (by decide) (by rfl) (by rfl) (by rfl) (Nat.le_of_ble_eq_true rfl) (by decide) (J_X11_layTwo_42 C.2.2.1 C.1 N (0 : Int32) S ew5) ?_
    refine aRun_ok hC hT 1 (cf' := (20, [(0, .ref 42), (1, .int a1)], [.int a1], LAY, w4)) (by rfl) ?_
    refine aIf_ne hC hT (tgt := 30) rfl (by decide) (fun hc6 => ?_) (fun hc6 => ?_)
    · have hf := aIfF hf hc6
      refine aRun_ok hC hT 2 (cf' := (34, [(0, .ref 42), (1, .int a1)], [.long (w4.2.1 42 27)], LAY, w4)) (by rfl) ?_
      have e9 := Option.some.inj hf; subst e9
      exact aRetL hC hT hF rfl rfl
    · have hf := aIfT hf hc6
      refine aRun_ok hC hT 3 (cf' := (34, [(0, .ref 42), (1, .int a1)], [.long (w4.2.1 42 26)], LAY, w4)) (by rfl) ?_
      have e9 := Option.some.inj hf; subst e9
      exact aRetL hC hT hF rfl rfl
  · have hf := aIfT hf hc3
    refine aRun_ok hC hT 1 (cf' := (13, [(0, .ref 42), (1, .int a1)], [.long ((-3) : Int64)], LAY, S)) (by rfl) ?_
    have e9 := Option.some.inj hf; subst e9
    exact aRetL hC hT hF rfl rfl
def X11_whose_42_b110 (N : Nat) (v2 : Int32) (v3 : Int64) (S : aSt) : Option (Int32 × aSt) := (Option.bind (X11_oneWeights_42 N S) (fun w11 => (Option.bind (X11_lowest N v3 w11 v2) (fun w13 => some (((w13.toInt32), S))))))
set_option maxHeartbeats 4000000 in
set_option maxRecDepth 100000 in
theorem X11_whose_42_b110_ok {C : aC} {N : Nat} (hC : aCx C M_X11_whose) {r : Int32 × aSt} (hF : aFin C (some (.int r.1)) LAY r.2 0 0) (v2 : Int32) (v3 : Int64) (S : aSt) (hf : X11_whose_42_b110 N v2 v3 S = (some r)) : aX C M_X11_whose 0 0 (110, [(0, .ref 42), (2, .int v2), (3, .long v3)], [], LAY, S) := by
  have hT := ok_X11_whose
  unfold X11_whose_42_b110 at hf
  refine aRun_ok hC hT 2 (cf' := (112, [(0, .ref 42), (2, .int v2), (3, .long v3)], [.ref 42, .long v3], LAY, S)) (by rfl) ?_
  obtain ⟨w11, ew12, hf⟩ := aBnE hf
  refine aCallV (b := 42) (As := []) (rest := [.long v3]) hC hT rfl k_X11_whose_268.1 _ _ k_X11_whose_268.2 (by decide) (by rfl) (by rfl) (by rfl) (Nat.le_of_ble_eq_true rfl) (by decide) (J_X11_oneWeights_42 C.2.2.1 C.1 N  S ew12) ?_
  refine aRun_ok hC hT 1 (cf' := (116, [(0, .ref 42), (2, .int v2), (3, .long v3)], [.int v2, .long w11, .long v3], LAY, S)) (by rfl) ?_
  obtain ⟨w13, ew14, hf⟩ := aBnE hf
  refine aCallS (As := [.long v3, .long w11, .int v2]) (rest := []) hC hT rfl k_X11_whose_272.1 _ k_X11_whose_272.2 (by rfl) (Nat.le_of_ble_eq_true rfl) (by decide) (J_X11_lowest C.2.2.1 C.1 N v3 w11 v2 S ew14) ?_
  refine aRun_ok hC hT 1 (cf' := (120, [(0, .ref 42), (2, .int v2), (3, .long v3)], [.int (w13.toInt32)], LAY, S)) (by rfl) ?_
  have e9 := Option.some.inj hf; subst e9
  exact aRetI hC hT hF rfl rfl
def X11_whose_42_b102 (N : Nat) (rec40 : Int32 → Int32 → Int64 → Int32 → aSt → Option (Int32 × aSt)) (v1 : Int32) (v2 : Int32) (v5 : Int32) (s0 : Int64) (s1 : Int64) (S : aSt) : Option (Int32 × aSt) := (rec40 v1 v2 (s1 + s0) (v5 + (1 : Int32)) S)
set_option maxHeartbeats 4000000 in
set_option maxRecDepth 100000 in
theorem X11_whose_42_b102_ok {C : aC} {N : Nat} {rec40 : Int32 → Int32 → Int64 → Int32 → aSt → Option (Int32 × aSt)} (hC : aCx C M_X11_whose) {r : Int32 × aSt} (hF : aFin C (some (.int r.1)) LAY r.2 0 0) (hrec40 : ∀ (v1 : Int32) (v2 : Int32) (v3 : Int64) (v5 : Int32) (S : aSt), rec40 v1 v2 v3 v5 S = (some r) → aX C M_X11_whose 0 0 (40, [(0, .ref 42), (1, .int v1), (2, .int v2), (3, .long v3), (5, .int v5)], [], LAY, S)) (v1 : Int32) (v2 : Int32) (v5 : Int32) (s0 : Int64) (s1 : Int64) (S : aSt) (hf : X11_whose_42_b102 N rec40 v1 v2 v5 s0 s1 S = (some r)) : aX C M_X11_whose 0 0 (102, [(0, .ref 42), (1, .int v1), (2, .int v2), (5, .int v5)], [.long s0, .long s1], LAY, S) := by
  have hT := ok_X11_whose
  unfold X11_whose_42_b102 at hf
  refine aRun_ok hC hT 4 (cf' := (40, [(5, .int (v5 + (1 : Int32))), (3, .long (s1 + s0)), (0, .ref 42), (1, .int v1), (2, .int v2)], [], LAY, S)) (by rfl) ?_
  refine aLocs [2, 3, 4, 1, 0] (lv' := [(0, .ref 42), (1, .int v1), (2, .int v2), (3, .long (s1 + s0)), (5, .int (v5 + (1 : Int32)))]) rfl ?_
  exact hrec40 v1 v2 (s1 + s0) (v5 + (1 : Int32)) S hf
def X11_whose_42_b101 (N : Nat) (rec40 : Int32 → Int32 → Int64 → Int32 → aSt → Option (Int32 × aSt)) (v1 : Int32) (v2 : Int32) (v5 : Int32) (s0 : Int64) (S : aSt) : Option (Int32 × aSt) := (X11_whose_42_b102 N rec40 v1 v2 v5 (0 : Int64) s0 S)
set_option maxHeartbeats 4000000 in
set_option maxRecDepth 100000 in
theorem X11_whose_42_b101_ok {C : aC} {N : Nat} {rec40 : Int32 → Int32 → Int64 → Int32 → aSt → Option (Int32 × aSt)} (hC : aCx C M_X11_whose) {r : Int32 × aSt} (hF : aFin C (some (.int r.1)) LAY r.2 0 0) (hrec40 : ∀ (v1 : Int32) (v2 : Int32) (v3 : Int64) (v5 : Int32) (S : aSt), rec40 v1 v2 v3 v5 S = (some r) → aX C M_X11_whose 0 0 (40, [(0, .ref 42), (1, .int v1), (2, .int v2), (3, .long v3), (5, .int v5)], [], LAY, S)) (v1 : Int32) (v2 : Int32) (v5 : Int32) (s0 : Int64) (S : aSt) (hf : X11_whose_42_b101 N rec40 v1 v2 v5 s0 S = (some r)) : aX C M_X11_whose 0 0 (101, [(0, .ref 42), (1, .int v1), (2, .int v2), (5, .int v5)], [.long s0], LAY, S) := by
  have hT := ok_X11_whose
  unfold X11_whose_42_b101 at hf
  refine aRun_ok hC hT 1 (cf' := (102, [(0, .ref 42), (1, .int v1), (2, .int v2), (5, .int v5)], [.long (0 : Int64), .long s0], LAY, S)) (by rfl) ?_
  exact X11_whose_42_b102_ok hC hF hrec40 v1 v2 v5 (0 : Int64) s0 S hf
def X11_whose_42_b40 (N : Nat) (rec40 : Int32 → Int32 → Int64 → Int32 → aSt → Option (Int32 × aSt)) (v1 : Int32) (v2 : Int32) (v3 : Int64) (v5 : Int32) (S : aSt) : Option (Int32 × aSt) := (if (S.1 42 25) ≤ v5 then (X11_whose_42_b110 N v2 v3 S) else (if aIx v5 2048 = true then (if aIx ((S.2.2 55) v5.toNatClampNeg) 2048 = true then (if (5 : Int32) ≤ ((S.2.2 50) ((S.2.2 55) v5.toNatClampNeg).toNatClampNeg) then (X11_whose_42_b101 N rec40 v1 v2 v5 v3 S) else (if aIx ((S.2.2 55) v5.toNatClampNeg) 2048 = true then (if aIx (((5 : Int32) * ((S.2.2 51) ((S.2.2 55) v5.toNatClampNeg).toNatClampNeg)) + (3 : Int32)) 150 = true then (if ((S.2.2 45) (((5 : Int32) * ((S.2.2 51) ((S.2.2 55) v5.toNatClampNeg).toNatClampNeg)) + (3 : Int32)).toNatClampNeg) = v1 then (if aIx ((S.2.2 55) v5.toNatClampNeg) 2048 = true then (X11_whose_42_b102 N rec40 v1 v2 v5 (((S.2.2 54) ((S.2.2 55) v5.toNatClampNeg).toNatClampNeg).toInt64) v3 S) else none) else (X11_whose_42_b101 N rec40 v1 v2 v5 v3 S)) else none) else none)) else none) else none))
set_option maxHeartbeats 4000000 in
set_option maxRecDepth 100000 in
theorem X11_whose_42_b40_ok {C : aC} {N : Nat} {rec40 : Int32 → Int32 → Int64 → Int32 → aSt → Option (Int32 × aSt)} (hC : aCx C M_X11_whose) {r : Int32 × aSt} (hF : aFin C (some (.int r.1)) LAY r.2 0 0) (hrec40 : ∀ (v1 : Int32) (v2 : Int32) (v3 : Int64) (v5 : Int32) (S : aSt), rec40 v1 v2 v3 v5 S = (some r) → aX C M_X11_whose 0 0 (40, [(0, .ref 42), (1, .int v1), (2, .int v2), (3, .long v3), (5, .int v5)], [], LAY, S)) (v1 : Int32) (v2 : Int32) (v3 : Int64) (v5 : Int32) (S : aSt) (hf : X11_whose_42_b40 N rec40 v1 v2 v3 v5 S = (some r)) : aX C M_X11_whose 0 0 (40, [(0, .ref 42), (1, .int v1), (2, .int v2), (3, .long v3), (5, .int v5)], [], LAY, S) := by
  have hT := ok_X11_whose
  unfold X11_whose_42_b40 at hf
  refine aRun_ok hC hT 3 (cf' := (46, [(0, .ref 42), (1, .int v1), (2, .int v2), (3, .long v3), (5, .int v5)], [.int (S.1 42 25), .int v5], LAY, S)) (by rfl) ?_
  refine aCmp_ge hC hT (tgt := 110) rfl (by decide) (fun hc10 => ?_) (fun hc10 => ?_)
  · have hf := aIfT hf hc10
    refine aLocs [0, 2, 3] (lv' := [(0, .ref 42), (2, .int v2), (3, .long v3)]) rfl ?_
    exact X11_whose_42_b110_ok hC hF v2 v3 S hf
  · have hf := aIfF hf hc10
    refine aRun_ok hC hT 3 (cf' := (55, [(0, .ref 42), (1, .int v1), (2, .int v2), (3, .long v3), (5, .int v5)], [.int v5, .ref 55], LAY, S)) (by rfl) ?_
    obtain ⟨hin15, hf⟩ := aGdE hf
    refine aIald hC hT rfl (by decide) (by rfl) hin15 ?_
    refine aRun_ok hC hT 5 (cf' := (65, [(6, .int ((S.2.2 55) v5.toNatClampNeg)), (0, .ref 42), (1, .int v1), (2, .int v2), (3, .long v3), (5, .int v5)], [.int ((S.2.2 55) v5.toNatClampNeg), .ref 50, .long v3], LAY, S)) (by rfl) ?_
    obtain ⟨hin16, hf⟩ := aGdE hf
    refine aIald hC hT rfl (by decide) (by rfl) hin16 ?_
    refine aRun_ok hC hT 1 (cf' := (67, [(6, .int ((S.2.2 55) v5.toNatClampNeg)), (0, .ref 42), (1, .int v1), (2, .int v2), (3, .long v3), (5, .int v5)], [.int (5 : Int32), .int ((S.2.2 50) ((S.2.2 55) v5.toNatClampNeg).toNatClampNeg), .long v3], LAY, S)) (by rfl) ?_
    refine aCmp_ge hC hT (tgt := 101) rfl (by decide) (fun hc17 => ?_) (fun hc17 => ?_)
    · have hf := aIfT hf hc17
      refine aLocs [1, 2, 3, 5] (lv' := [(0, .ref 42), (1, .int v1), (2, .int v2), (5, .int v5)]) rfl ?_
      exact X11_whose_42_b101_ok hC hF hrec40 v1 v2 v5 v3 S hf
    · have hf := aIfF hf hc17
      refine aRun_ok hC hT 6 (cf' := (81, [(6, .int ((S.2.2 55) v5.toNatClampNeg)), (0, .ref 42), (1, .int v1), (2, .int v2), (3, .long v3), (5, .int v5)], [.int ((S.2.2 55) v5.toNatClampNeg), .ref 51, .int (5 : Int32), .ref 45, .long v3], LAY, S)) (by rfl) ?_
      obtain ⟨hin18, hf⟩ := aGdE hf
      refine aIald hC hT rfl (by decide) (by rfl) hin18 ?_
      refine aRun_ok hC hT 3 (cf' := (85, [(6, .int ((S.2.2 55) v5.toNatClampNeg)), (0, .ref 42), (1, .int v1), (2, .int v2), (3, .long v3), (5, .int v5)], [.int (((5 : Int32) * ((S.2.2 51) ((S.2.2 55) v5.toNatClampNeg).toNatClampNeg)) + (3 : Int32)), .ref 45, .long v3], LAY, S)) (by rfl) ?_
      obtain ⟨hin19, hf⟩ := aGdE hf
      refine aIald hC hT rfl (by decide) (by rfl) hin19 ?_
      refine aRun_ok hC hT 1 (cf' := (87, [(6, .int ((S.2.2 55) v5.toNatClampNeg)), (0, .ref 42), (1, .int v1), (2, .int v2), (3, .long v3), (5, .int v5)], [.int v1, .int ((S.2.2 45) (((5 : Int32) * ((S.2.2 51) ((S.2.2 55) v5.toNatClampNeg).toNatClampNeg)) + (3 : Int32)).toNatClampNeg), .long v3], LAY, S)) (by rfl) ?_
      refine aCmp_ne hC hT (tgt := 101) rfl (by decide) (fun hc20 => ?_) (fun hc20 => ?_)
      · have hf := aIfF hf hc20
        refine aLocs [1, 2, 3, 5] (lv' := [(0, .ref 42), (1, .int v1), (2, .int v2), (5, .int v5)]) rfl ?_
        exact X11_whose_42_b101_ok hC hF hrec40 v1 v2 v5 v3 S hf
      · have hf := aIfT hf hc20
        refine aRun_ok hC hT 3 (cf' := (96, [(6, .int ((S.2.2 55) v5.toNatClampNeg)), (0, .ref 42), (1, .int v1), (2, .int v2), (3, .long v3), (5, .int v5)], [.int ((S.2.2 55) v5.toNatClampNeg), .ref 54, .long v3], LAY, S)) (by rfl) ?_
        obtain ⟨hin21, hf⟩ := aGdE hf
        refine aIald hC hT rfl (by decide) (by rfl) hin21 ?_
        refine aRun_ok hC hT 2 (cf' := (102, [(6, .int ((S.2.2 55) v5.toNatClampNeg)), (0, .ref 42), (1, .int v1), (2, .int v2), (3, .long v3), (5, .int v5)], [.long (((S.2.2 54) ((S.2.2 55) v5.toNatClampNeg).toNatClampNeg).toInt64), .long v3], LAY, S)) (by rfl) ?_
        refine aLocs [1, 2, 3, 5] (lv' := [(0, .ref 42), (1, .int v1), (2, .int v2), (5, .int v5)]) rfl ?_
        exact X11_whose_42_b102_ok hC hF hrec40 v1 v2 v5 (((S.2.2 54) ((S.2.2 55) v5.toNatClampNeg).toNatClampNeg).toInt64) v3 S hf
def X11_whose_42_l40 (N : Nat) : Nat → Int32 → Int32 → Int64 → Int32 → aSt → Option (Int32 × aSt)
  | 0 => fun _ _ _ _ _ => none
  | n + 1 => X11_whose_42_b40 N (X11_whose_42_l40 N n)
theorem X11_whose_42_l40_ok {C : aC} {N : Nat} (hC : aCx C M_X11_whose) {r : Int32 × aSt} (hF : aFin C (some (.int r.1)) LAY r.2 0 0) : ∀ (n : Nat) (v1 : Int32) (v2 : Int32) (v3 : Int64) (v5 : Int32) (S : aSt), X11_whose_42_l40 N n v1 v2 v3 v5 S = (some r) → aX C M_X11_whose 0 0 (40, [(0, .ref 42), (1, .int v1), (2, .int v2), (3, .long v3), (5, .int v5)], [], LAY, S)
  | 0, _, _, _, _, _,  h => nomatch (show (none : Option (Int32 × aSt)) = some _ from h)
  | n + 1, v1, v2, v3, v5, S,  h => X11_whose_42_b40_ok hC hF (fun v1 v2 v3 v5 S h => X11_whose_42_l40_ok hC hF n v1 v2 v3 v5 S h) v1 v2 v3 v5 S h
def X11_whose_42 (N : Nat) (a1 : Int32) (a2 : Int32) (S : aSt) : Option (Int32 × aSt) := (Option.bind (X11_isHand N a1) (fun w1 => (if w1 = (0 : Int32) then some ((((-2) : Int32), S)) else (Option.bind (X11_isPart N a2) (fun w4 => (if w4 = (0 : Int32) then some ((((-3) : Int32), S)) else (Option.bind (X11_layOnes_42 N (0 : Int32) S) (fun w7 => (if (w7.1 42 25) = (0 : Int32) then some ((((-4) : Int32), w7)) else (X11_whose_42_l40 N N a1 a2 (0 : Int64) (0 : Int32) w7))))))))))
set_option maxHeartbeats 4000000 in
set_option maxRecDepth 100000 in
theorem J_X11_whose_42 (l : Launch) (g : aWg) (N : Nat) (a1 : Int32) (a2 : Int32) (S : aSt) {r : Int32 × aSt} (hf : X11_whose_42 N a1 a2 S = (some r)) : aJ l g yX11_whose M_X11_whose [.ref 42, .int a1, .int a2] LAY S (some (.int r.1)) LAY r.2 0 0 := by
  refine aJ_of (by decide +kernel) rfl (Nat.le_of_ble_eq_true rfl) (fun h => nomatch h) ?_
  intro C hg hl hC hz hF
  subst hg; subst hl
  have hT := ok_X11_whose
  unfold X11_whose_42 at hf
  show aX C M_X11_whose 0 0 (0, [(0, .ref 42), (1, .int a1), (2, .int a2)], [], LAY, S)
  refine aRun_ok hC hT 1 (cf' := (1, [(0, .ref 42), (1, .int a1), (2, .int a2)], [.int a1], LAY, S)) (by rfl) ?_
  obtain ⟨w1, ew2, hf⟩ := aBnE hf
  refine aCallS (As := [.int a1]) (rest := []) hC hT rfl k_X11_whose_167.1 _ k_X11_whose_167.2 (by rfl) (Nat.le_of_ble_eq_true rfl) (by decide) (J_X11_isHand C.2.2.1 C.1 N a1 S ew2) ?_
  refine aIf_ne hC hT (tgt := 10) rfl (by decide) (fun hc3 => ?_) (fun hc3 => ?_)
  · have hf := aIfF hf hc3
    refine aRun_ok hC hT 1 (cf' := (11, [(0, .ref 42), (1, .int a1), (2, .int a2)], [.int a2], LAY, S)) (by rfl) ?_
    obtain ⟨w4, ew5, hf⟩ := aBnE hf
    refine aCallS (As := [.int a2]) (rest := []) hC hT rfl k_X11_whose_263.1 _ k_X11_whose_263.2 (by rfl) (Nat.le_of_ble_eq_true rfl) (by decide) (J_X11_isPart C.2.2.1 C.1 N a2 S ew5) ?_
    refine aIf_ne hC hT (tgt := 20) rfl (by decide) (fun hc6 => ?_) (fun hc6 => ?_)
    · have hf := aIfF hf hc6
      refine aRun_ok hC hT 2 (cf' := (22, [(0, .ref 42), (1, .int a1), (2, .int a2)], [.int (0 : Int32), .ref 42], LAY, S)) (by rfl) ?_
      obtain ⟨w7, ew8, hf⟩ := aBnE hf
      refine aCallV (b := 42) (As := [.int (0 : Int32)]) (rest := []) hC hT rfl k_X11_whose_227.1 _ _ k_X11_whose_227.2 (by decide) (by rfl) (by rfl) (by rfl) (Nat.le_of_ble_eq_true rfl) (by decide) (J_X11_layOnes_42 C.2.2.1 C.1 N (0 : Int32) S ew8) ?_
      refine aRun_ok hC hT 2 (cf' := (29, [(0, .ref 42), (1, .int a1), (2, .int a2)], [.int (w7.1 42 25)], LAY, w7)) (by rfl) ?_
      refine aIf_ne hC hT (tgt := 35) rfl (by decide) (fun hc9 => ?_) (fun hc9 => ?_)
      · have hf := aIfF hf hc9
        refine aRun_ok hC hT 4 (cf' := (40, [(5, .int (0 : Int32)), (3, .long (0 : Int64)), (0, .ref 42), (1, .int a1), (2, .int a2)], [], LAY, w7)) (by rfl) ?_
        refine aLocs [2, 3, 4, 1, 0] (lv' := [(0, .ref 42), (1, .int a1), (2, .int a2), (3, .long (0 : Int64)), (5, .int (0 : Int32))]) rfl ?_
        exact X11_whose_42_l40_ok hC hF N a1 a2 (0 : Int64) (0 : Int32) w7 hf
      · have hf := aIfT hf hc9
        refine aRun_ok hC hT 1 (cf' := (34, [(0, .ref 42), (1, .int a1), (2, .int a2)], [.int ((-4) : Int32)], LAY, w7)) (by rfl) ?_
        have e9 := Option.some.inj hf; subst e9
        exact aRetI hC hT hF rfl rfl
    · have hf := aIfT hf hc6
      refine aRun_ok hC hT 1 (cf' := (19, [(0, .ref 42), (1, .int a1), (2, .int a2)], [.int ((-3) : Int32)], LAY, S)) (by rfl) ?_
      have e9 := Option.some.inj hf; subst e9
      exact aRetI hC hT hF rfl rfl
  · have hf := aIfT hf hc3
    refine aRun_ok hC hT 1 (cf' := (9, [(0, .ref 42), (1, .int a1), (2, .int a2)], [.int ((-2) : Int32)], LAY, S)) (by rfl) ?_
    have e9 := Option.some.inj hf; subst e9
    exact aRetI hC hT hF rfl rfl
def X11_write_42_b33 (N : Nat) (rec33 : Int64 → Int32 → Int32 → aSt → Option (Int32 × aSt)) (v1 : Int64) (v3 : Int32) (v4 : Int32) (S : aSt) : Option (Int32 × aSt) := (if v3 ≤ v4 then some (((S.1 42 1), S)) else (if aIx (S.1 42 1) 200 = true then (rec33 v1 v3 (v4 + (1 : Int32)) (aI (aA S 43 (upd (S.2.2 43) (S.1 42 1).toNatClampNeg (((v1 >>> (((8 : Int32) * v4).toInt64 &&& 63)) &&& (255 : Int64)).toInt32))) 42 1 ((S.1 42 1) + (1 : Int32)))) else none))
set_option maxHeartbeats 4000000 in
set_option maxRecDepth 100000 in
theorem X11_write_42_b33_ok {C : aC} {N : Nat} {rec33 : Int64 → Int32 → Int32 → aSt → Option (Int32 × aSt)} (hC : aCx C M_X11_write) {r : Int32 × aSt} (hF : aFin C (some (.int r.1)) LAY r.2 0 0) (hrec33 : ∀ (v1 : Int64) (v3 : Int32) (v4 : Int32) (S : aSt), rec33 v1 v3 v4 S = (some r) → aX C M_X11_write 0 0 (33, [(0, .ref 42), (1, .long v1), (3, .int v3), (4, .int v4)], [], LAY, S)) (v1 : Int64) (v3 : Int32) (v4 : Int32) (S : aSt) (hf : X11_write_42_b33 N rec33 v1 v3 v4 S = (some r)) : aX C M_X11_write 0 0 (33, [(0, .ref 42), (1, .long v1), (3, .int v3), (4, .int v4)], [], LAY, S) := by
  have hT := ok_X11_write
  unfold X11_write_42_b33 at hf
  refine aRun_ok hC hT 2 (cf' := (36, [(0, .ref 42), (1, .long v1), (3, .int v3), (4, .int v4)], [.int v3, .int v4], LAY, S)) (by rfl) ?_
  refine aCmp_ge hC hT (tgt := 76) rfl (by decide) (fun hc5 => ?_) (fun hc5 => ?_)
  · have hf := aIfT hf hc5
    refine aRun_ok hC hT 2 (cf' := (80, [(0, .ref 42), (1, .long v1), (3, .int v3), (4, .int v4)], [.int (S.1 42 1)], LAY, S)) (by rfl) ?_
    have e9 := Option.some.inj hf; subst e9
    exact aRetI hC hT hF rfl rfl
  · have hf := aIfF hf hc5
    refine aRun_ok hC hT 12 (cf' := (59, [(0, .ref 42), (1, .long v1), (3, .int v3), (4, .int v4)], [.int (((v1 >>> (((8 : Int32) * v4).toInt64 &&& 63)) &&& (255 : Int64)).toInt32), .int (S.1 42 1), .ref 43], LAY, S)) (by rfl) ?_
    obtain ⟨hin6, hf⟩ := aGdE hf
    refine aIast hC hT rfl (by decide) (by rfl) hin6 ?_
    refine aRun_ok hC hT 8 (cf' := (33, [(4, .int (v4 + (1 : Int32))), (0, .ref 42), (1, .long v1), (3, .int v3)], [], LAY, (aI (aA S 43 (upd (S.2.2 43) (S.1 42 1).toNatClampNeg (((v1 >>> (((8 : Int32) * v4).toInt64 &&& 63)) &&& (255 : Int64)).toInt32))) 42 1 ((S.1 42 1) + (1 : Int32))))) (by rfl) ?_
    refine aLocs [1, 2, 3, 0] (lv' := [(0, .ref 42), (1, .long v1), (3, .int v3), (4, .int (v4 + (1 : Int32)))]) rfl ?_
    exact hrec33 v1 v3 (v4 + (1 : Int32)) (aI (aA S 43 (upd (S.2.2 43) (S.1 42 1).toNatClampNeg (((v1 >>> (((8 : Int32) * v4).toInt64 &&& 63)) &&& (255 : Int64)).toInt32))) 42 1 ((S.1 42 1) + (1 : Int32))) hf
def X11_write_42_l33 (N : Nat) : Nat → Int64 → Int32 → Int32 → aSt → Option (Int32 × aSt)
  | 0 => fun _ _ _ _ => none
  | n + 1 => X11_write_42_b33 N (X11_write_42_l33 N n)
theorem X11_write_42_l33_ok {C : aC} {N : Nat} (hC : aCx C M_X11_write) {r : Int32 × aSt} (hF : aFin C (some (.int r.1)) LAY r.2 0 0) : ∀ (n : Nat) (v1 : Int64) (v3 : Int32) (v4 : Int32) (S : aSt), X11_write_42_l33 N n v1 v3 v4 S = (some r) → aX C M_X11_write 0 0 (33, [(0, .ref 42), (1, .long v1), (3, .int v3), (4, .int v4)], [], LAY, S)
  | 0, _, _, _, _,  h => nomatch (show (none : Option (Int32 × aSt)) = some _ from h)
  | n + 1, v1, v3, v4, S,  h => X11_write_42_b33_ok hC hF (fun v1 v3 v4 S h => X11_write_42_l33_ok hC hF n v1 v3 v4 S h) v1 v3 v4 S h
def X11_write_42 (N : Nat) (a1 : Int64) (a3 : Int32) (S : aSt) : Option (Int32 × aSt) := (aLet (X11_in (a3.toInt64) (1 : Int64) (8 : Int64)) (fun w1 => (if w1 = (0 : Int32) then some ((((-3) : Int32), S)) else (if ((S.1 42 1) + a3) ≤ (200 : Int32) then (X11_write_42_l33 N N a1 a3 (0 : Int32) S) else some ((((-5) : Int32), S))))))
set_option maxHeartbeats 4000000 in
set_option maxRecDepth 100000 in
theorem J_X11_write_42 (l : Launch) (g : aWg) (N : Nat) (a1 : Int64) (a3 : Int32) (S : aSt) {r : Int32 × aSt} (hf : X11_write_42 N a1 a3 S = (some r)) : aJ l g yX11_write M_X11_write [.ref 42, .long a1, .int a3] LAY S (some (.int r.1)) LAY r.2 0 0 := by
  refine aJ_of (by decide +kernel) rfl (Nat.le_of_ble_eq_true rfl) (fun h => nomatch h) ?_
  intro C hg hl hC hz hF
  subst hg; subst hl
  have hT := ok_X11_write
  unfold X11_write_42 at hf
  show aX C M_X11_write 0 0 (0, [(0, .ref 42), (1, .long a1), (3, .int a3)], [], LAY, S)
  refine aRun_ok hC hT 4 (cf' := (6, [(0, .ref 42), (1, .long a1), (3, .int a3)], [.long (8 : Int64), .long (1 : Int64), .long (a3.toInt64)], LAY, S)) (by rfl) ?_
  obtain ⟨w1, ew2, hf⟩ := aLetE hf
  refine aCallS (As := [.long (a3.toInt64), .long (1 : Int64), .long (8 : Int64)]) (rest := []) hC hT rfl k_X11_write_70.1 _ k_X11_write_70.2 (by rfl) (Nat.le_of_ble_eq_true rfl) (by decide) (J_X11_in C.2.2.1 C.1 (a3.toInt64) (1 : Int64) (8 : Int64) S ew2) ?_
  refine aIf_ne hC hT (tgt := 15) rfl (by decide) (fun hc3 => ?_) (fun hc3 => ?_)
  · have hf := aIfF hf hc3
    refine aRun_ok hC hT 5 (cf' := (24, [(0, .ref 42), (1, .long a1), (3, .int a3)], [.int (200 : Int32), .int ((S.1 42 1) + a3)], LAY, S)) (by rfl) ?_
    refine aCmp_le hC hT (tgt := 30) rfl (by decide) (fun hc4 => ?_) (fun hc4 => ?_)
    · have hf := aIfT hf hc4
      refine aRun_ok hC hT 2 (cf' := (33, [(4, .int (0 : Int32)), (0, .ref 42), (1, .long a1), (3, .int a3)], [], LAY, S)) (by rfl) ?_
      refine aLocs [1, 2, 3, 0] (lv' := [(0, .ref 42), (1, .long a1), (3, .int a3), (4, .int (0 : Int32))]) rfl ?_
      exact X11_write_42_l33_ok hC hF N a1 a3 (0 : Int32) S hf
    · have hf := aIfF hf hc4
      refine aRun_ok hC hT 1 (cf' := (29, [(0, .ref 42), (1, .long a1), (3, .int a3)], [.int ((-5) : Int32)], LAY, S)) (by rfl) ?_
      have e9 := Option.some.inj hf; subst e9
      exact aRetI hC hT hF rfl rfl
  · have hf := aIfT hf hc3
    refine aRun_ok hC hT 1 (cf' := (14, [(0, .ref 42), (1, .long a1), (3, .int a3)], [.int ((-3) : Int32)], LAY, S)) (by rfl) ?_
    have e9 := Option.some.inj hf; subst e9
    exact aRetI hC hT hF rfl rfl
def L_law_1000_c0_b940 (N : Nat) (L : Nat) (xs : Nat → Int32) (rec18 : Int32 → aSt → Option (Int32)) (v3 : Int32) (S : aSt) : Option (Int32) := (rec18 (v3 + (4 : Int32)) S)
set_option maxHeartbeats 4000000 in
set_option maxRecDepth 100000 in
theorem L_law_1000_c0_b940_ok {C : aC} {N : Nat} {L : Nat} {xs : Nat → Int32} {rec18 : Int32 → aSt → Option (Int32)} (hC : aCx C M_L_law) (hSc : aSc C L xs) {r : Int32} (hF : r = 1 ∧ ∀ (pc : Nat) (lv : List (Nat × Value)) (S : aSt), aLk M_L_law.2.2.2.2.2.2.1 pc = some (.ireturn, 1) → aX C M_L_law 59 27715 (pc, lv, [.int 1], LAY, S)) (hrec18 : ∀ (v3 : Int32) (S : aSt), rec18 v3 S = (some r) → aX C M_L_law 59 27715 (18, [(0, .ref 1000), (1, .ref 0), (2, .ref 42), (3, .int v3)], [], LAY, S)) (v3 : Int32) (S : aSt) (hf : L_law_1000_c0_b940 N L xs rec18 v3 S = (some r)) : aX C M_L_law 59 27715 (940, [(0, .ref 1000), (1, .ref 0), (2, .ref 42), (3, .int v3)], [], LAY, S) := by
  have hT := ok_L_law
  unfold L_law_1000_c0_b940 at hf
  refine aRun_ok hC hT 2 (cf' := (18, [(3, .int (v3 + (4 : Int32))), (0, .ref 1000), (1, .ref 0), (2, .ref 42)], [], LAY, S)) (by rfl) ?_
  refine aLocs [1, 2, 3, 0] (lv' := [(0, .ref 1000), (1, .ref 0), (2, .ref 42), (3, .int (v3 + (4 : Int32)))]) rfl ?_
  exact hrec18 (v3 + (4 : Int32)) S hf
def L_law_1000_c0_b525 (N : Nat) (L : Nat) (xs : Nat → Int32) (rec18 : Int32 → aSt → Option (Int32)) (v3 : Int32) (s0 : Int32) (s1 : Int32) (s2 : Int32) (s4 : Int32) (S : aSt) : Option (Int32) := (Option.bind (X11_one_42 N s2 s1 s0 S) (fun w121 => (if s4 = w121.1 then (L_law_1000_c0_b940 N L xs rec18 v3 w121.2) else some ((0 : Int32)))))
set_option maxHeartbeats 4000000 in
set_option maxRecDepth 100000 in
theorem L_law_1000_c0_b525_ok {C : aC} {N : Nat} {L : Nat} {xs : Nat → Int32} {rec18 : Int32 → aSt → Option (Int32)} (hC : aCx C M_L_law) (hSc : aSc C L xs) {r : Int32} (hF : r = 1 ∧ ∀ (pc : Nat) (lv : List (Nat × Value)) (S : aSt), aLk M_L_law.2.2.2.2.2.2.1 pc = some (.ireturn, 1) → aX C M_L_law 59 27715 (pc, lv, [.int 1], LAY, S)) (hrec18 : ∀ (v3 : Int32) (S : aSt), rec18 v3 S = (some r) → aX C M_L_law 59 27715 (18, [(0, .ref 1000), (1, .ref 0), (2, .ref 42), (3, .int v3)], [], LAY, S)) (v3 : Int32) (s0 : Int32) (s1 : Int32) (s2 : Int32) (s4 : Int32) (S : aSt) (hf : L_law_1000_c0_b525 N L xs rec18 v3 s0 s1 s2 s4 S = (some r)) : aX C M_L_law 59 27715 (525, [(0, .ref 1000), (1, .ref 0), (2, .ref 42), (3, .int v3)], [.int s0, .int s1, .int s2, .ref 42, .int s4], LAY, S) := by
  have hT := ok_L_law
  unfold L_law_1000_c0_b525 at hf
  obtain ⟨w121, ew122, hf⟩ := aBnE hf
  refine aCallV (b := 42) (As := [.int s2, .int s1, .int s0]) (rest := [.int s4]) hC hT rfl k_L_law_72.1 _ _ k_L_law_72.2 (by decide) (by rfl) (by rfl) (by rfl) (Nat.le_of_ble_eq_true rfl) (by decide) (J_X11_one_42 C.2.2.1 C.1 N s2 s1 s0 S ew122) ?_
  refine aCmp_eq hC hT (tgt := 940) rfl (by decide) (fun hc123 => ?_) (fun hc123 => ?_)
  · have hf := aIfT hf hc123
    exact L_law_1000_c0_b940_ok hC hSc hF hrec18 v3 w121.2 hf
  · have hf := aIfF hf hc123
    refine aRun_ok hC hT 1 (cf' := (532, [(0, .ref 1000), (1, .ref 0), (2, .ref 42), (3, .int v3)], [.int (0 : Int32)], LAY, w121.2)) (by rfl) ?_
    have e9 := Option.some.inj hf; subst e9
    exact absurd hF.1 (by decide)
def L_law_1000_c0_b498 (N : Nat) (L : Nat) (xs : Nat → Int32) (rec18 : Int32 → aSt → Option (Int32)) (v3 : Int32) (s0 : Int32) (s1 : Int32) (s2 : Int32) (S : aSt) : Option (Int32) := (Option.bind (X10_one_0 N s2 s1 s0 S) (fun w115 => (if aIx (v3 + (1 : Int32)) L = true then (if aIx (v3 + (2 : Int32)) L = true then (if aIx (v3 + (3 : Int32)) L = true then (if (xs (v3 + (3 : Int32)).toNatClampNeg) = (0 : Int32) then (L_law_1000_c0_b525 N L xs rec18 v3 (0 : Int32) (xs (v3 + (2 : Int32)).toNatClampNeg) (xs (v3 + (1 : Int32)).toNatClampNeg) w115.1 w115.2) else (L_law_1000_c0_b525 N L xs rec18 v3 (1 : Int32) (xs (v3 + (2 : Int32)).toNatClampNeg) (xs (v3 + (1 : Int32)).toNatClampNeg) w115.1 w115.2)) else none) else none) else none)))
set_option maxHeartbeats 4000000 in
set_option maxRecDepth 100000 in
theorem L_law_1000_c0_b498_ok {C : aC} {N : Nat} {L : Nat} {xs : Nat → Int32} {rec18 : Int32 → aSt → Option (Int32)} (hC : aCx C M_L_law) (hSc : aSc C L xs) {r : Int32} (hF : r = 1 ∧ ∀ (pc : Nat) (lv : List (Nat × Value)) (S : aSt), aLk M_L_law.2.2.2.2.2.2.1 pc = some (.ireturn, 1) → aX C M_L_law 59 27715 (pc, lv, [.int 1], LAY, S)) (hrec18 : ∀ (v3 : Int32) (S : aSt), rec18 v3 S = (some r) → aX C M_L_law 59 27715 (18, [(0, .ref 1000), (1, .ref 0), (2, .ref 42), (3, .int v3)], [], LAY, S)) (v3 : Int32) (s0 : Int32) (s1 : Int32) (s2 : Int32) (S : aSt) (hf : L_law_1000_c0_b498 N L xs rec18 v3 s0 s1 s2 S = (some r)) : aX C M_L_law 59 27715 (498, [(0, .ref 1000), (1, .ref 0), (2, .ref 42), (3, .int v3)], [.int s0, .int s1, .int s2, .ref 0], LAY, S) := by
  have hT := ok_L_law
  unfold L_law_1000_c0_b498 at hf
  obtain ⟨w115, ew116, hf⟩ := aBnE hf
  refine aCallV (b := 0) (As := [.int s2, .int s1, .int s0]) (rest := []) hC hT rfl k_L_law_68.1 _ _ k_L_law_68.2 (by decide) (by rfl) (by rfl) (by rfl) (Nat.le_of_ble_eq_true rfl) (by decide) (J_X10_one_0 C.2.2.1 C.1 N s2 s1 s0 S ew116) ?_
  refine aRun_ok hC hT 5 (cf' := (506, [(0, .ref 1000), (1, .ref 0), (2, .ref 42), (3, .int v3)], [.int (v3 + (1 : Int32)), .ref 1000, .ref 42, .int w115.1], LAY, w115.2)) (by rfl) ?_
  obtain ⟨hin117, hf⟩ := aGdE hf
  refine aIaldX hC hT hSc rfl hin117 ?_
  refine aRun_ok hC hT 4 (cf' := (511, [(0, .ref 1000), (1, .ref 0), (2, .ref 42), (3, .int v3)], [.int (v3 + (2 : Int32)), .ref 1000, .int (xs (v3 + (1 : Int32)).toNatClampNeg), .ref 42, .int w115.1], LAY, w115.2)) (by rfl) ?_
  obtain ⟨hin118, hf⟩ := aGdE hf
  refine aIaldX hC hT hSc rfl hin118 ?_
  refine aRun_ok hC hT 4 (cf' := (516, [(0, .ref 1000), (1, .ref 0), (2, .ref 42), (3, .int v3)], [.int (v3 + (3 : Int32)), .ref 1000, .int (xs (v3 + (2 : Int32)).toNatClampNeg), .int (xs (v3 + (1 : Int32)).toNatClampNeg), .ref 42, .int w115.1], LAY, w115.2)) (by rfl) ?_
  obtain ⟨hin119, hf⟩ := aGdE hf
  refine aIaldX hC hT hSc rfl hin119 ?_
  refine aIf_eq hC hT (tgt := 524) rfl (by decide) (fun hc120 => ?_) (fun hc120 => ?_)
  · have hf := aIfT hf hc120
    refine aRun_ok hC hT 1 (cf' := (525, [(0, .ref 1000), (1, .ref 0), (2, .ref 42), (3, .int v3)], [.int (0 : Int32), .int (xs (v3 + (2 : Int32)).toNatClampNeg), .int (xs (v3 + (1 : Int32)).toNatClampNeg), .ref 42, .int w115.1], LAY, w115.2)) (by rfl) ?_
    exact L_law_1000_c0_b525_ok hC hSc hF hrec18 v3 (0 : Int32) (xs (v3 + (2 : Int32)).toNatClampNeg) (xs (v3 + (1 : Int32)).toNatClampNeg) w115.1 w115.2 hf
  · have hf := aIfF hf hc120
    refine aRun_ok hC hT 2 (cf' := (525, [(0, .ref 1000), (1, .ref 0), (2, .ref 42), (3, .int v3)], [.int (1 : Int32), .int (xs (v3 + (2 : Int32)).toNatClampNeg), .int (xs (v3 + (1 : Int32)).toNatClampNeg), .ref 42, .int w115.1], LAY, w115.2)) (by rfl) ?_
    exact L_law_1000_c0_b525_ok hC hSc hF hrec18 v3 (1 : Int32) (xs (v3 + (2 : Int32)).toNatClampNeg) (xs (v3 + (1 : Int32)).toNatClampNeg) w115.1 w115.2 hf
def L_law_1000_c0_b640 (N : Nat) (L : Nat) (xs : Nat → Int32) (rec18 : Int32 → aSt → Option (Int32)) (v3 : Int32) (s0 : Int32) (s2 : Int32) (S : aSt) : Option (Int32) := (if aIx (v3 + (2 : Int32)) L = true then (Option.bind (X11_pair_42 N s0 (xs (v3 + (2 : Int32)).toNatClampNeg) S) (fun w157 => (if s2 = w157.1 then (L_law_1000_c0_b940 N L xs rec18 v3 w157.2) else some ((0 : Int32))))) else none)
set_option maxHeartbeats 4000000 in
set_option maxRecDepth 100000 in
theorem L_law_1000_c0_b640_ok {C : aC} {N : Nat} {L : Nat} {xs : Nat → Int32} {rec18 : Int32 → aSt → Option (Int32)} (hC : aCx C M_L_law) (hSc : aSc C L xs) {r : Int32} (hF : r = 1 ∧ ∀ (pc : Nat) (lv : List (Nat × Value)) (S : aSt), aLk M_L_law.2.2.2.2.2.2.1 pc = some (.ireturn, 1) → aX C M_L_law 59 27715 (pc, lv, [.int 1], LAY, S)) (hrec18 : ∀ (v3 : Int32) (S : aSt), rec18 v3 S = (some r) → aX C M_L_law 59 27715 (18, [(0, .ref 1000), (1, .ref 0), (2, .ref 42), (3, .int v3)], [], LAY, S)) (v3 : Int32) (s0 : Int32) (s2 : Int32) (S : aSt) (hf : L_law_1000_c0_b640 N L xs rec18 v3 s0 s2 S = (some r)) : aX C M_L_law 59 27715 (640, [(0, .ref 1000), (1, .ref 0), (2, .ref 42), (3, .int v3)], [.int s0, .ref 42, .int s2], LAY, S) := by
  have hT := ok_L_law
  unfold L_law_1000_c0_b640 at hf
  refine aRun_ok hC hT 4 (cf' := (644, [(0, .ref 1000), (1, .ref 0), (2, .ref 42), (3, .int v3)], [.int (v3 + (2 : Int32)), .ref 1000, .int s0, .ref 42, .int s2], LAY, S)) (by rfl) ?_
  obtain ⟨hin156, hf⟩ := aGdE hf
  refine aIaldX hC hT hSc rfl hin156 ?_
  obtain ⟨w157, ew158, hf⟩ := aBnE hf
  refine aCallV (b := 42) (As := [.int s0, .int (xs (v3 + (2 : Int32)).toNatClampNeg)]) (rest := [.int s2]) hC hT rfl k_L_law_90.1 _ _ k_L_law_90.2 (by decide) (by rfl) (by rfl) (by rfl) (Nat.le_of_ble_eq_true rfl) (by decide) (J_X11_pair_42 C.2.2.1 C.1 N s0 (xs (v3 + (2 : Int32)).toNatClampNeg) S ew158) ?_
  refine aCmp_eq hC hT (tgt := 940) rfl (by decide) (fun hc159 => ?_) (fun hc159 => ?_)
  · have hf := aIfT hf hc159
    exact L_law_1000_c0_b940_ok hC hSc hF hrec18 v3 w157.2 hf
  · have hf := aIfF hf hc159
    refine aRun_ok hC hT 1 (cf' := (652, [(0, .ref 1000), (1, .ref 0), (2, .ref 42), (3, .int v3)], [.int (0 : Int32)], LAY, w157.2)) (by rfl) ?_
    have e9 := Option.some.inj hf; subst e9
    exact absurd hF.1 (by decide)
def L_law_1000_c0_b618 (N : Nat) (L : Nat) (xs : Nat → Int32) (rec18 : Int32 → aSt → Option (Int32)) (v3 : Int32) (s0 : Int32) (S : aSt) : Option (Int32) := (if aIx (v3 + (2 : Int32)) L = true then (Option.bind (X10_pair_0 N s0 (xs (v3 + (2 : Int32)).toNatClampNeg) S) (fun w152 => (if aIx (v3 + (1 : Int32)) L = true then (if (xs (v3 + (1 : Int32)).toNatClampNeg) = (0 : Int32) then (L_law_1000_c0_b640 N L xs rec18 v3 (0 : Int32) w152.1 w152.2) else (L_law_1000_c0_b640 N L xs rec18 v3 (1 : Int32) w152.1 w152.2)) else none))) else none)
set_option maxHeartbeats 4000000 in
set_option maxRecDepth 100000 in
theorem L_law_1000_c0_b618_ok {C : aC} {N : Nat} {L : Nat} {xs : Nat → Int32} {rec18 : Int32 → aSt → Option (Int32)} (hC : aCx C M_L_law) (hSc : aSc C L xs) {r : Int32} (hF : r = 1 ∧ ∀ (pc : Nat) (lv : List (Nat × Value)) (S : aSt), aLk M_L_law.2.2.2.2.2.2.1 pc = some (.ireturn, 1) → aX C M_L_law 59 27715 (pc, lv, [.int 1], LAY, S)) (hrec18 : ∀ (v3 : Int32) (S : aSt), rec18 v3 S = (some r) → aX C M_L_law 59 27715 (18, [(0, .ref 1000), (1, .ref 0), (2, .ref 42), (3, .int v3)], [], LAY, S)) (v3 : Int32) (s0 : Int32) (S : aSt) (hf : L_law_1000_c0_b618 N L xs rec18 v3 s0 S = (some r)) : aX C M_L_law 59 27715 (618, [(0, .ref 1000), (1, .ref 0), (2, .ref 42), (3, .int v3)], [.int s0, .ref 0], LAY, S) := by
  have hT := ok_L_law
  unfold L_law_1000_c0_b618 at hf
  refine aRun_ok hC hT 4 (cf' := (622, [(0, .ref 1000), (1, .ref 0), (2, .ref 42), (3, .int v3)], [.int (v3 + (2 : Int32)), .ref 1000, .int s0, .ref 0], LAY, S)) (by rfl) ?_
  obtain ⟨hin151, hf⟩ := aGdE hf
  refine aIaldX hC hT hSc rfl hin151 ?_
  obtain ⟨w152, ew153, hf⟩ := aBnE hf
  refine aCallV (b := 0) (As := [.int s0, .int (xs (v3 + (2 : Int32)).toNatClampNeg)]) (rest := []) hC hT rfl k_L_law_86.1 _ _ k_L_law_86.2 (by decide) (by rfl) (by rfl) (by rfl) (Nat.le_of_ble_eq_true rfl) (by decide) (J_X10_pair_0 C.2.2.1 C.1 N s0 (xs (v3 + (2 : Int32)).toNatClampNeg) S ew153) ?_
  refine aRun_ok hC hT 5 (cf' := (631, [(0, .ref 1000), (1, .ref 0), (2, .ref 42), (3, .int v3)], [.int (v3 + (1 : Int32)), .ref 1000, .ref 42, .int w152.1], LAY, w152.2)) (by rfl) ?_
  obtain ⟨hin154, hf⟩ := aGdE hf
  refine aIaldX hC hT hSc rfl hin154 ?_
  refine aIf_eq hC hT (tgt := 639) rfl (by decide) (fun hc155 => ?_) (fun hc155 => ?_)
  · have hf := aIfT hf hc155
    refine aRun_ok hC hT 1 (cf' := (640, [(0, .ref 1000), (1, .ref 0), (2, .ref 42), (3, .int v3)], [.int (0 : Int32), .ref 42, .int w152.1], LAY, w152.2)) (by rfl) ?_
    exact L_law_1000_c0_b640_ok hC hSc hF hrec18 v3 (0 : Int32) w152.1 w152.2 hf
  · have hf := aIfF hf hc155
    refine aRun_ok hC hT 2 (cf' := (640, [(0, .ref 1000), (1, .ref 0), (2, .ref 42), (3, .int v3)], [.int (1 : Int32), .ref 42, .int w152.1], LAY, w152.2)) (by rfl) ?_
    exact L_law_1000_c0_b640_ok hC hSc hF hrec18 v3 (1 : Int32) w152.1 w152.2 hf
def L_law_1000_c0_b761 (N : Nat) (L : Nat) (xs : Nat → Int32) (rec18 : Int32 → aSt → Option (Int32)) (v3 : Int32) (s0 : Int32) (s1 : Int32) (s3 : Int32) (S : aSt) : Option (Int32) := (Option.bind (X11_look_42 N s1 s0 S) (fun w189 => (if s3 = w189.1 then (L_law_1000_c0_b940 N L xs rec18 v3 w189.2) else some ((0 : Int32)))))
set_option maxHeartbeats 4000000 in
set_option maxRecDepth 100000 in
theorem L_law_1000_c0_b761_ok {C : aC} {N : Nat} {L : Nat} {xs : Nat → Int32} {rec18 : Int32 → aSt → Option (Int32)} (hC : aCx C M_L_law) (hSc : aSc C L xs) {r : Int32} (hF : r = 1 ∧ ∀ (pc : Nat) (lv : List (Nat × Value)) (S : aSt), aLk M_L_law.2.2.2.2.2.2.1 pc = some (.ireturn, 1) → aX C M_L_law 59 27715 (pc, lv, [.int 1], LAY, S)) (hrec18 : ∀ (v3 : Int32) (S : aSt), rec18 v3 S = (some r) → aX C M_L_law 59 27715 (18, [(0, .ref 1000), (1, .ref 0), (2, .ref 42), (3, .int v3)], [], LAY, S)) (v3 : Int32) (s0 : Int32) (s1 : Int32) (s3 : Int32) (S : aSt) (hf : L_law_1000_c0_b761 N L xs rec18 v3 s0 s1 s3 S = (some r)) : aX C M_L_law 59 27715 (761, [(0, .ref 1000), (1, .ref 0), (2, .ref 42), (3, .int v3)], [.int s0, .int s1, .ref 42, .int s3], LAY, S) := by
  have hT := ok_L_law
  unfold L_law_1000_c0_b761 at hf
  obtain ⟨w189, ew190, hf⟩ := aBnE hf
  refine aCallV (b := 42) (As := [.int s1, .int s0]) (rest := [.int s3]) hC hT rfl k_L_law_104.1 _ _ k_L_law_104.2 (by decide) (by rfl) (by rfl) (by rfl) (Nat.le_of_ble_eq_true rfl) (by decide) (J_X11_look_42 C.2.2.1 C.1 N s1 s0 S ew190) ?_
  refine aCmp_eq hC hT (tgt := 940) rfl (by decide) (fun hc191 => ?_) (fun hc191 => ?_)
  · have hf := aIfT hf hc191
    exact L_law_1000_c0_b940_ok hC hSc hF hrec18 v3 w189.2 hf
  · have hf := aIfF hf hc191
    refine aRun_ok hC hT 1 (cf' := (768, [(0, .ref 1000), (1, .ref 0), (2, .ref 42), (3, .int v3)], [.int (0 : Int32)], LAY, w189.2)) (by rfl) ?_
    have e9 := Option.some.inj hf; subst e9
    exact absurd hF.1 (by decide)
def L_law_1000_c0_b739 (N : Nat) (L : Nat) (xs : Nat → Int32) (rec18 : Int32 → aSt → Option (Int32)) (v3 : Int32) (s0 : Int32) (s1 : Int32) (S : aSt) : Option (Int32) := (Option.bind (X10_look_0 N s1 s0 S) (fun w184 => (if aIx (v3 + (1 : Int32)) L = true then (if aIx (v3 + (2 : Int32)) L = true then (if (xs (v3 + (2 : Int32)).toNatClampNeg) = (0 : Int32) then (L_law_1000_c0_b761 N L xs rec18 v3 (0 : Int32) (xs (v3 + (1 : Int32)).toNatClampNeg) w184.1 w184.2) else (L_law_1000_c0_b761 N L xs rec18 v3 (1 : Int32) (xs (v3 + (1 : Int32)).toNatClampNeg) w184.1 w184.2)) else none) else none)))
set_option maxHeartbeats 4000000 in
set_option maxRecDepth 100000 in
theorem L_law_1000_c0_b739_ok {C : aC} {N : Nat} {L : Nat} {xs : Nat → Int32} {rec18 : Int32 → aSt → Option (Int32)} (hC : aCx C M_L_law) (hSc : aSc C L xs) {r : Int32} (hF : r = 1 ∧ ∀ (pc : Nat) (lv : List (Nat × Value)) (S : aSt), aLk M_L_law.2.2.2.2.2.2.1 pc = some (.ireturn, 1) → aX C M_L_law 59 27715 (pc, lv, [.int 1], LAY, S)) (hrec18 : ∀ (v3 : Int32) (S : aSt), rec18 v3 S = (some r) → aX C M_L_law 59 27715 (18, [(0, .ref 1000), (1, .ref 0), (2, .ref 42), (3, .int v3)], [], LAY, S)) (v3 : Int32) (s0 : Int32) (s1 : Int32) (S : aSt) (hf : L_law_1000_c0_b739 N L xs rec18 v3 s0 s1 S = (some r)) : aX C M_L_law 59 27715 (739, [(0, .ref 1000), (1, .ref 0), (2, .ref 42), (3, .int v3)], [.int s0, .int s1, .ref 0], LAY, S) := by
  have hT := ok_L_law
  unfold L_law_1000_c0_b739 at hf
  obtain ⟨w184, ew185, hf⟩ := aBnE hf
  refine aCallV (b := 0) (As := [.int s1, .int s0]) (rest := []) hC hT rfl k_L_law_100.1 _ _ k_L_law_100.2 (by decide) (by rfl) (by rfl) (by rfl) (Nat.le_of_ble_eq_true rfl) (by decide) (J_X10_look_0 C.2.2.1 C.1 N s1 s0 S ew185) ?_
  refine aRun_ok hC hT 5 (cf' := (747, [(0, .ref 1000), (1, .ref 0), (2, .ref 42), (3, .int v3)], [.int (v3 + (1 : Int32)), .ref 1000, .ref 42, .int w184.1], LAY, w184.2)) (by rfl) ?_
  obtain ⟨hin186, hf⟩ := aGdE hf
  refine aIaldX hC hT hSc rfl hin186 ?_
  refine aRun_ok hC hT 4 (cf' := (752, [(0, .ref 1000), (1, .ref 0), (2, .ref 42), (3, .int v3)], [.int (v3 + (2 : Int32)), .ref 1000, .int (xs (v3 + (1 : Int32)).toNatClampNeg), .ref 42, .int w184.1], LAY, w184.2)) (by rfl) ?_
  obtain ⟨hin187, hf⟩ := aGdE hf
  refine aIaldX hC hT hSc rfl hin187 ?_
  refine aIf_eq hC hT (tgt := 760) rfl (by decide) (fun hc188 => ?_) (fun hc188 => ?_)
  · have hf := aIfT hf hc188
    refine aRun_ok hC hT 1 (cf' := (761, [(0, .ref 1000), (1, .ref 0), (2, .ref 42), (3, .int v3)], [.int (0 : Int32), .int (xs (v3 + (1 : Int32)).toNatClampNeg), .ref 42, .int w184.1], LAY, w184.2)) (by rfl) ?_
    exact L_law_1000_c0_b761_ok hC hSc hF hrec18 v3 (0 : Int32) (xs (v3 + (1 : Int32)).toNatClampNeg) w184.1 w184.2 hf
  · have hf := aIfF hf hc188
    refine aRun_ok hC hT 2 (cf' := (761, [(0, .ref 1000), (1, .ref 0), (2, .ref 42), (3, .int v3)], [.int (1 : Int32), .int (xs (v3 + (1 : Int32)).toNatClampNeg), .ref 42, .int w184.1], LAY, w184.2)) (by rfl) ?_
    exact L_law_1000_c0_b761_ok hC hSc hF hrec18 v3 (1 : Int32) (xs (v3 + (1 : Int32)).toNatClampNeg) w184.1 w184.2 hf
def L_law_1000_c0_b805 (N : Nat) (L : Nat) (xs : Nat → Int32) (rec18 : Int32 → aSt → Option (Int32)) (v3 : Int32) (s0 : Int32) (s2 : Int32) (S : aSt) : Option (Int32) := (if aIx (v3 + (2 : Int32)) L = true then (Option.bind (X11_mean_42 N s0 (xs (v3 + (2 : Int32)).toNatClampNeg) S) (fun w201 => (if s2 = w201.1 then (L_law_1000_c0_b940 N L xs rec18 v3 w201.2) else some ((0 : Int32))))) else none)
set_option maxHeartbeats 4000000 in
set_option maxRecDepth 100000 in
theorem L_law_1000_c0_b805_ok {C : aC} {N : Nat} {L : Nat} {xs : Nat → Int32} {rec18 : Int32 → aSt → Option (Int32)} (hC : aCx C M_L_law) (hSc : aSc C L xs) {r : Int32} (hF : r = 1 ∧ ∀ (pc : Nat) (lv : List (Nat × Value)) (S : aSt), aLk M_L_law.2.2.2.2.2.2.1 pc = some (.ireturn, 1) → aX C M_L_law 59 27715 (pc, lv, [.int 1], LAY, S)) (hrec18 : ∀ (v3 : Int32) (S : aSt), rec18 v3 S = (some r) → aX C M_L_law 59 27715 (18, [(0, .ref 1000), (1, .ref 0), (2, .ref 42), (3, .int v3)], [], LAY, S)) (v3 : Int32) (s0 : Int32) (s2 : Int32) (S : aSt) (hf : L_law_1000_c0_b805 N L xs rec18 v3 s0 s2 S = (some r)) : aX C M_L_law 59 27715 (805, [(0, .ref 1000), (1, .ref 0), (2, .ref 42), (3, .int v3)], [.int s0, .ref 42, .int s2], LAY, S) := by
  have hT := ok_L_law
  unfold L_law_1000_c0_b805 at hf
  refine aRun_ok hC hT 4 (cf' := (809, [(0, .ref 1000), (1, .ref 0), (2, .ref 42), (3, .int v3)], [.int (v3 + (2 : Int32)), .ref 1000, .int s0, .ref 42, .int s2], LAY, S)) (by rfl) ?_
  obtain ⟨hin200, hf⟩ := aGdE hf
  refine aIaldX hC hT hSc rfl hin200 ?_
  obtain ⟨w201, ew202, hf⟩ := aBnE hf
  refine aCallV (b := 42) (As := [.int s0, .int (xs (v3 + (2 : Int32)).toNatClampNeg)]) (rest := [.int s2]) hC hT rfl k_L_law_108.1 _ _ k_L_law_108.2 (by decide) (by rfl) (by rfl) (by rfl) (Nat.le_of_ble_eq_true rfl) (by decide) (J_X11_mean_42 C.2.2.1 C.1 N s0 (xs (v3 + (2 : Int32)).toNatClampNeg) S ew202) ?_
  refine aCmp_eq hC hT (tgt := 940) rfl (by decide) (fun hc203 => ?_) (fun hc203 => ?_)
  · have hf := aIfT hf hc203
    exact L_law_1000_c0_b940_ok hC hSc hF hrec18 v3 w201.2 hf
  · have hf := aIfF hf hc203
    refine aRun_ok hC hT 1 (cf' := (817, [(0, .ref 1000), (1, .ref 0), (2, .ref 42), (3, .int v3)], [.int (0 : Int32)], LAY, w201.2)) (by rfl) ?_
    have e9 := Option.some.inj hf; subst e9
    exact absurd hF.1 (by decide)
def L_law_1000_c0_b783 (N : Nat) (L : Nat) (xs : Nat → Int32) (rec18 : Int32 → aSt → Option (Int32)) (v3 : Int32) (s0 : Int32) (S : aSt) : Option (Int32) := (if aIx (v3 + (2 : Int32)) L = true then (Option.bind (X10_mean_0 N s0 (xs (v3 + (2 : Int32)).toNatClampNeg) S) (fun w196 => (if aIx (v3 + (1 : Int32)) L = true then (if (xs (v3 + (1 : Int32)).toNatClampNeg) = (0 : Int32) then (L_law_1000_c0_b805 N L xs rec18 v3 (0 : Int32) w196.1 w196.2) else (L_law_1000_c0_b805 N L xs rec18 v3 (1 : Int32) w196.1 w196.2)) else none))) else none)
set_option maxHeartbeats 4000000 in
set_option maxRecDepth 100000 in
theorem L_law_1000_c0_b783_ok {C : aC} {N : Nat} {L : Nat} {xs : Nat → Int32} {rec18 : Int32 → aSt → Option (Int32)} (hC : aCx C M_L_law) (hSc : aSc C L xs) {r : Int32} (hF : r = 1 ∧ ∀ (pc : Nat) (lv : List (Nat × Value)) (S : aSt), aLk M_L_law.2.2.2.2.2.2.1 pc = some (.ireturn, 1) → aX C M_L_law 59 27715 (pc, lv, [.int 1], LAY, S)) (hrec18 : ∀ (v3 : Int32) (S : aSt), rec18 v3 S = (some r) → aX C M_L_law 59 27715 (18, [(0, .ref 1000), (1, .ref 0), (2, .ref 42), (3, .int v3)], [], LAY, S)) (v3 : Int32) (s0 : Int32) (S : aSt) (hf : L_law_1000_c0_b783 N L xs rec18 v3 s0 S = (some r)) : aX C M_L_law 59 27715 (783, [(0, .ref 1000), (1, .ref 0), (2, .ref 42), (3, .int v3)], [.int s0, .ref 0], LAY, S) := by
  have hT := ok_L_law
  unfold L_law_1000_c0_b783 at hf
  refine aRun_ok hC hT 4 (cf' := (787, [(0, .ref 1000), (1, .ref 0), (2, .ref 42), (3, .int v3)], [.int (v3 + (2 : Int32)), .ref 1000, .int s0, .ref 0], LAY, S)) (by rfl) ?_
  obtain ⟨hin195, hf⟩ := aGdE hf
  refine aIaldX hC hT hSc rfl hin195 ?_
  obtain ⟨w196, ew197, hf⟩ := aBnE hf
  refine aCallV (b := 0) (As := [.int s0, .int (xs (v3 + (2 : Int32)).toNatClampNeg)]) (rest := []) hC hT rfl k_L_law_105.1 _ _ k_L_law_105.2 (by decide) (by rfl) (by rfl) (by rfl) (Nat.le_of_ble_eq_true rfl) (by decide) (J_X10_mean_0 C.2.2.1 C.1 N s0 (xs (v3 + (2 : Int32)).toNatClampNeg) S ew197) ?_
  refine aRun_ok hC hT 5 (cf' := (796, [(0, .ref 1000), (1, .ref 0), (2, .ref 42), (3, .int v3)], [.int (v3 + (1 : Int32)), .ref 1000, .ref 42, .int w196.1], LAY, w196.2)) (by rfl) ?_
  obtain ⟨hin198, hf⟩ := aGdE hf
  refine aIaldX hC hT hSc rfl hin198 ?_
  refine aIf_eq hC hT (tgt := 804) rfl (by decide) (fun hc199 => ?_) (fun hc199 => ?_)
  · have hf := aIfT hf hc199
    refine aRun_ok hC hT 1 (cf' := (805, [(0, .ref 1000), (1, .ref 0), (2, .ref 42), (3, .int v3)], [.int (0 : Int32), .ref 42, .int w196.1], LAY, w196.2)) (by rfl) ?_
    exact L_law_1000_c0_b805_ok hC hSc hF hrec18 v3 (0 : Int32) w196.1 w196.2 hf
  · have hf := aIfF hf hc199
    refine aRun_ok hC hT 2 (cf' := (805, [(0, .ref 1000), (1, .ref 0), (2, .ref 42), (3, .int v3)], [.int (1 : Int32), .ref 42, .int w196.1], LAY, w196.2)) (by rfl) ?_
    exact L_law_1000_c0_b805_ok hC hSc hF hrec18 v3 (1 : Int32) w196.1 w196.2 hf
def L_law_1000_c0_b18 (N : Nat) (L : Nat) (xs : Nat → Int32) (rec18 : Int32 → aSt → Option (Int32)) (v3 : Int32) (S : aSt) : Option (Int32) := (if ((Int32.ofNat L) - (4 : Int32)) < v3 then some ((1 : Int32)) else (if aIx v3 L = true then (if ((xs v3.toNatClampNeg) &&& (31 : Int32)).toInt < 0 ∨ 24 < ((xs v3.toNatClampNeg) &&& (31 : Int32)).toInt then (L_law_1000_c0_b940 N L xs rec18 v3 S) else (if ((xs v3.toNatClampNeg) &&& (31 : Int32)) = (0 : Int32) then (if aIx (v3 + (1 : Int32)) L = true then (if aIx (v3 + (2 : Int32)) L = true then (if aIx (v3 + (3 : Int32)) L = true then (Option.bind (X10_write_0 N ((((xs (v3 + (1 : Int32)).toNatClampNeg).toInt64) <<< ((32 : Int32).toInt64 &&& 63)) ||| (((xs (v3 + (2 : Int32)).toNatClampNeg).toInt64) &&& (4294967295 : Int64))) (xs (v3 + (3 : Int32)).toNatClampNeg) S) (fun w12 => (if aIx (v3 + (1 : Int32)) L = true then (if aIx (v3 + (2 : Int32)) L = true then (if aIx (v3 + (3 : Int32)) L = true then (Option.bind (X11_write_42 N ((((xs (v3 + (1 : Int32)).toNatClampNeg).toInt64) <<< ((32 : Int32).toInt64 &&& 63)) ||| (((xs (v3 + (2 : Int32)).toNatClampNeg).toInt64) &&& (4294967295 : Int64))) (xs (v3 + (3 : Int32)).toNatClampNeg) w12.2) (fun w17 => (if w12.1 = w17.1 then (L_law_1000_c0_b940 N L xs rec18 v3 w17.2) else some ((0 : Int32))))) else none) else none) else none))) else none) else none) else none) else (if ((xs v3.toNatClampNeg) &&& (31 : Int32)) = (1 : Int32) then (aLet (X10_erase_0 S) (fun w21 => (aLet (X11_erase_42 w21.2) (fun w23 => (if w21.1 = w23.1 then (L_law_1000_c0_b940 N L xs rec18 v3 w23.2) else some ((0 : Int32))))))) else (if ((xs v3.toNatClampNeg) &&& (31 : Int32)) = (2 : Int32) then (Option.bind (X10_fault_0 N S) (fun w27 => (Option.bind (X11_fault_42 N w27.2) (fun w29 => (if w27.1 = w29.1 then (L_law_1000_c0_b940 N L xs rec18 v3 w29.2) else some ((0 : Int32))))))) else (if ((xs v3.toNatClampNeg) &&& (31 : Int32)) = (3 : Int32) then (Option.bind (X10_book_0 N S) (fun w33 => (Option.bind (X11_book_42 N w33.2) (fun w35 => (if w33.1 = w35.1 then (L_law_1000_c0_b940 N L xs rec18 v3 w35.2) else some ((0 : Int32))))))) else (if ((xs v3.toNatClampNeg) &&& (31 : Int32)) = (4 : Int32) then (if aIx (v3 + (1 : Int32)) L = true then (if aIx (v3 + (2 : Int32)) L = true then (aLet (X10_entry_0 (xs (v3 + (1 : Int32)).toNatClampNeg) (xs (v3 + (2 : Int32)).toNatClampNeg) S) (fun w41 => (if aIx (v3 + (1 : Int32)) L = true then (if aIx (v3 + (2 : Int32)) L = true then (Option.bind (X11_entry_42 N (xs (v3 + (1 : Int32)).toNatClampNeg) (xs (v3 + (2 : Int32)).toNatClampNeg) S) (fun w45 => (if w41 = w45 then (L_law_1000_c0_b940 N L xs rec18 v3 S) else some ((0 : Int32))))) else none) else none))) else none) else none) else (if ((xs v3.toNatClampNeg) &&& (31 : Int32)) = (5 : Int32) then (if aIx (v3 + (1 : Int32)) L = true then (Option.bind (X10_out_0 N (xs (v3 + (1 : Int32)).toNatClampNeg) S) (fun w50 => (if aIx (v3 + (1 : Int32)) L = true then (Option.bind (X11_out_42 N (xs (v3 + (1 : Int32)).toNatClampNeg) S) (fun w53 => (if w50 = w53 then (L_law_1000_c0_b940 N L xs rec18 v3 S) else some ((0 : Int32))))) else none))) else none) else (if ((xs v3.toNatClampNeg) &&& (31 : Int32)) = (6 : Int32) then (if aIx (v3 + (1 : Int32)) L = true then (Option.bind (X10_off_0 N (xs (v3 + (1 : Int32)).toNatClampNeg) S) (fun w58 => (if aIx (v3 + (1 : Int32)) L = true then (Option.bind (X11_off_42 N (xs (v3 + (1 : Int32)).toNatClampNeg) S) (fun w61 => (if w58 = w61 then (L_law_1000_c0_b940 N L xs rec18 v3 S) else some ((0 : Int32))))) else none))) else none) else (if ((xs v3.toNatClampNeg) &&& (31 : Int32)) = (7 : Int32) then (if aIx (v3 + (1 : Int32)) L = true then (if aIx (v3 + (2 : Int32)) L = true then (aLet (X10_odds_0 (xs (v3 + (1 : Int32)).toNatClampNeg) (xs (v3 + (2 : Int32)).toNatClampNeg) S) (fun w67 => (if aIx (v3 + (1 : Int32)) L = true then (if aIx (v3 + (2 : Int32)) L = true then (Option.bind (X11_odds_42 N (xs (v3 + (1 : Int32)).toNatClampNeg) (xs (v3 + (2 : Int32)).toNatClampNeg) S) (fun w71 => (if w67 = w71 then (L_law_1000_c0_b940 N L xs rec18 v3 S) else some ((0 : Int32))))) else none) else none))) else none) else none) else (if ((xs v3.toNatClampNeg) &&& (31 : Int32)) = (8 : Int32) then (if aIx (v3 + (1 : Int32)) L = true then (if aIx (v3 + (2 : Int32)) L = true then (aLet (X10_learn_0 (xs (v3 + (1 : Int32)).toNatClampNeg) (xs (v3 + (2 : Int32)).toNatClampNeg) S) (fun w77 => (if aIx (v3 + (1 : Int32)) L = true then (if aIx (v3 + (2 : Int32)) L = true then (Option.bind (X11_learn_42 N (xs (v3 + (1 : Int32)).toNatClampNeg) (xs (v3 + (2 : Int32)).toNatClampNeg) w77.2) (fun w81 => (if w77.1 = w81.1 then (L_law_1000_c0_b940 N L xs rec18 v3 w81.2) else some ((0 : Int32))))) else none) else none))) else none) else none) else (if ((xs v3.toNatClampNeg) &&& (31 : Int32)) = (9 : Int32) then (if aIx (v3 + (1 : Int32)) L = true then (if aIx (v3 + (2 : Int32)) L = true then (if aIx (v3 + (3 : Int32)) L = true then (Option.bind (X10_mend_0 N (xs (v3 + (1 : Int32)).toNatClampNeg) (xs (v3 + (2 : Int32)).toNatClampNeg) (xs (v3 + (3 : Int32)).toNatClampNeg) S) (fun w88 => (if aIx (v3 + (1 : Int32)) L = true then (if aIx (v3 + (2 : Int32)) L = true then (if aIx (v3 + (3 : Int32)) L = true then (Option.bind (X11_mend_42 N (xs (v3 + (1 : Int32)).toNatClampNeg) (xs (v3 + (2 : Int32)).toNatClampNeg) (xs (v3 + (3 : Int32)).toNatClampNeg) w88.2) (fun w93 => (if w88.1 = w93.1 then (L_law_1000_c0_b940 N L xs rec18 v3 w93.2) else some ((0 : Int32))))) else none) else none) else none))) else none) else none) else none) else (if ((xs v3.toNatClampNeg) &&& (31 : Int32)) = (10 : Int32) then (if aIx (v3 + (1 : Int32)) L = true then (Option.bind (X10_strike_0 N (xs (v3 + (1 : Int32)).toNatClampNeg) S) (fun w98 => (if aIx (v3 + (1 : Int32)) L = true then (Option.bind (X11_strike_42 N (xs (v3 + (1 : Int32)).toNatClampNeg) w98.2) (fun w101 => (if w98.1 = w101.1 then (L_law_1000_c0_b940 N L xs rec18 v3 w101.2) else some ((0 : Int32))))) else none))) else none) else (if ((xs v3.toNatClampNeg) &&& (31 : Int32)) = (11 : Int32) then (Option.bind (X10_signs_0 N S) (fun w105 => (Option.bind (X11_signs_42 N S) (fun w107 => (if w105 = w107 then (L_law_1000_c0_b940 N L xs rec18 v3 S) else some ((0 : Int32))))))) else (if ((xs v3.toNatClampNeg) &&& (31 : Int32)) = (12 : Int32) then (if aIx (v3 + (1 : Int32)) L = true then (if aIx (v3 + (2 : Int32)) L = true then (if aIx (v3 + (3 : Int32)) L = true then (if (xs (v3 + (3 : Int32)).toNatClampNeg) = (0 : Int32) then (L_law_1000_c0_b498 N L xs rec18 v3 (0 : Int32) (xs (v3 + (2 : Int32)).toNatClampNeg) (xs (v3 + (1 : Int32)).toNatClampNeg) S) else (L_law_1000_c0_b498 N L xs rec18 v3 (1 : Int32) (xs (v3 + (2 : Int32)).toNatClampNeg) (xs (v3 + (1 : Int32)).toNatClampNeg) S)) else none) else none) else none) else (if ((xs v3.toNatClampNeg) &&& (31 : Int32)) = (13 : Int32) then (if aIx (v3 + (1 : Int32)) L = true then (Option.bind (X10_ofKind_0 N (xs (v3 + (1 : Int32)).toNatClampNeg) S) (fun w126 => (if aIx (v3 + (1 : Int32)) L = true then (Option.bind (X11_ofKind_42 N (xs (v3 + (1 : Int32)).toNatClampNeg) w126.2) (fun w129 => (if w126.1 = w129.1 then (L_law_1000_c0_b940 N L xs rec18 v3 w129.2) else some ((0 : Int32))))) else none))) else none) else (if ((xs v3.toNatClampNeg) &&& (31 : Int32)) = (14 : Int32) then (if aIx (v3 + (1 : Int32)) L = true then (Option.bind (X10_two_0 N (xs (v3 + (1 : Int32)).toNatClampNeg) S) (fun w134 => (if aIx (v3 + (1 : Int32)) L = true then (Option.bind (X11_two_42 N (xs (v3 + (1 : Int32)).toNatClampNeg) w134.2) (fun w137 => (if (lg_cmp w134.1 w137.1) = (0 : Int32) then (L_law_1000_c0_b940 N L xs rec18 v3 w137.2) else some ((0 : Int32))))) else none))) else none) else (if ((xs v3.toNatClampNeg) &&& (31 : Int32)) = (15 : Int32) then (if aIx (v3 + (1 : Int32)) L = true then (Option.bind (X10_hide_0 N (xs (v3 + (1 : Int32)).toNatClampNeg) S) (fun w142 => (if aIx (v3 + (1 : Int32)) L = true then (Option.bind (X11_hide_42 N (xs (v3 + (1 : Int32)).toNatClampNeg) w142.2) (fun w145 => (if (lg_cmp w142.1 w145.1) = (0 : Int32) then (L_law_1000_c0_b940 N L xs rec18 v3 w145.2) else some ((0 : Int32))))) else none))) else none) else (if ((xs v3.toNatClampNeg) &&& (31 : Int32)) = (16 : Int32) then (if aIx (v3 + (1 : Int32)) L = true then (if (xs (v3 + (1 : Int32)).toNatClampNeg) = (0 : Int32) then (L_law_1000_c0_b618 N L xs rec18 v3 (0 : Int32) S) else (L_law_1000_c0_b618 N L xs rec18 v3 (1 : Int32) S)) else none) else (if ((xs v3.toNatClampNeg) &&& (31 : Int32)) = (17 : Int32) then (if aIx (v3 + (1 : Int32)) L = true then (if aIx (v3 + (2 : Int32)) L = true then (Option.bind (X10_chance_0 N (xs (v3 + (1 : Int32)).toNatClampNeg) (xs (v3 + (2 : Int32)).toNatClampNeg) S) (fun w163 => (if aIx (v3 + (1 : Int32)) L = true then (if aIx (v3 + (2 : Int32)) L = true then (Option.bind (X11_chance_42 N (xs (v3 + (1 : Int32)).toNatClampNeg) (xs (v3 + (2 : Int32)).toNatClampNeg) w163.2) (fun w167 => (if (lg_cmp w163.1 w167.1) = (0 : Int32) then (L_law_1000_c0_b940 N L xs rec18 v3 w167.2) else some ((0 : Int32))))) else none) else none))) else none) else none) else (if ((xs v3.toNatClampNeg) &&& (31 : Int32)) = (18 : Int32) then (if aIx (v3 + (1 : Int32)) L = true then (if aIx (v3 + (2 : Int32)) L = true then (Option.bind (X10_whose_0 N (xs (v3 + (1 : Int32)).toNatClampNeg) (xs (v3 + (2 : Int32)).toNatClampNeg) S) (fun w173 => (if aIx (v3 + (1 : Int32)) L = true then (if aIx (v3 + (2 : Int32)) L = true then (Option.bind (X11_whose_42 N (xs (v3 + (1 : Int32)).toNatClampNeg) (xs (v3 + (2 : Int32)).toNatClampNeg) w173.2) (fun w177 => (if w173.1 = w177.1 then (L_law_1000_c0_b940 N L xs rec18 v3 w177.2) else some ((0 : Int32))))) else none) else none))) else none) else none) else (if ((xs v3.toNatClampNeg) &&& (31 : Int32)) = (19 : Int32) then (if aIx (v3 + (1 : Int32)) L = true then (if aIx (v3 + (2 : Int32)) L = true then (if (xs (v3 + (2 : Int32)).toNatClampNeg) = (0 : Int32) then (L_law_1000_c0_b739 N L xs rec18 v3 (0 : Int32) (xs (v3 + (1 : Int32)).toNatClampNeg) S) else (L_law_1000_c0_b739 N L xs rec18 v3 (1 : Int32) (xs (v3 + (1 : Int32)).toNatClampNeg) S)) else none) else none) else (if ((xs v3.toNatClampNeg) &&& (31 : Int32)) = (20 : Int32) then (if aIx (v3 + (1 : Int32)) L = true then (if (xs (v3 + (1 : Int32)).toNatClampNeg) = (0 : Int32) then (L_law_1000_c0_b783 N L xs rec18 v3 (0 : Int32) S) else (L_law_1000_c0_b783 N L xs rec18 v3 (1 : Int32) S)) else none) else (if ((xs v3.toNatClampNeg) &&& (31 : Int32)) = (21 : Int32) then (if aIx (v3 + (1 : Int32)) L = true then (if aIx (v3 + (2 : Int32)) L = true then (if aIx (v3 + (3 : Int32)) L = true then (Option.bind (X10_judge_0 N (xs (v3 + (1 : Int32)).toNatClampNeg) (xs (v3 + (2 : Int32)).toNatClampNeg) (xs (v3 + (3 : Int32)).toNatClampNeg) S) (fun w208 => (if aIx (v3 + (1 : Int32)) L = true then (if aIx (v3 + (2 : Int32)) L = true then (if aIx (v3 + (3 : Int32)) L = true then (Option.bind (X11_judge_42 N (xs (v3 + (1 : Int32)).toNatClampNeg) (xs (v3 + (2 : Int32)).toNatClampNeg) (xs (v3 + (3 : Int32)).toNatClampNeg) S) (fun w213 => (if w208 = w213 then (L_law_1000_c0_b940 N L xs rec18 v3 S) else some ((0 : Int32))))) else none) else none) else none))) else none) else none) else none) else (if ((xs v3.toNatClampNeg) &&& (31 : Int32)) = (22 : Int32) then (if aIx (v3 + (1 : Int32)) L = true then (aLet (X10_other_0 (xs (v3 + (1 : Int32)).toNatClampNeg) S) (fun w218 => (if aIx (v3 + (1 : Int32)) L = true then (Option.bind (X11_other_42 N (xs (v3 + (1 : Int32)).toNatClampNeg) w218.2) (fun w221 => (if w218.1 = w221.1 then (L_law_1000_c0_b940 N L xs rec18 v3 w221.2) else some ((0 : Int32))))) else none))) else none) else (if ((xs v3.toNatClampNeg) &&& (31 : Int32)) = (23 : Int32) then (if aIx (v3 + (1 : Int32)) L = true then (if aIx (v3 + (2 : Int32)) L = true then (Option.bind (X10_match_0 N (xs (v3 + (1 : Int32)).toNatClampNeg) (xs (v3 + (2 : Int32)).toNatClampNeg) S) (fun w227 => (if aIx (v3 + (1 : Int32)) L = true then (if aIx (v3 + (2 : Int32)) L = true then (Option.bind (X11_match_42 N (xs (v3 + (1 : Int32)).toNatClampNeg) (xs (v3 + (2 : Int32)).toNatClampNeg) w227.2) (fun w231 => (if w227.1 = w231.1 then (L_law_1000_c0_b940 N L xs rec18 v3 w231.2) else some ((0 : Int32))))) else none) else none))) else none) else none) else (if ((xs v3.toNatClampNeg) &&& (31 : Int32)) = (24 : Int32) then (if aIx (v3 + (1 : Int32)) L = true then (Option.bind (X10_count_0 N (xs (v3 + (1 : Int32)).toNatClampNeg) S) (fun w236 => (if aIx (v3 + (1 : Int32)) L = true then (Option.bind (X11_count_42 N (xs (v3 + (1 : Int32)).toNatClampNeg) S) (fun w239 => (if w236 = w239 then (L_law_1000_c0_b940 N L xs rec18 v3 S) else some ((0 : Int32))))) else none))) else none) else none)))))))))))))))))))))))))) else none))
set_option maxHeartbeats 4000000 in
set_option maxRecDepth 100000 in
theorem L_law_1000_c0_b18_ok {C : aC} {N : Nat} {L : Nat} {xs : Nat → Int32} {rec18 : Int32 → aSt → Option (Int32)} (hC : aCx C M_L_law) (hSc : aSc C L xs) {r : Int32} (hF : r = 1 ∧ ∀ (pc : Nat) (lv : List (Nat × Value)) (S : aSt), aLk M_L_law.2.2.2.2.2.2.1 pc = some (.ireturn, 1) → aX C M_L_law 59 27715 (pc, lv, [.int 1], LAY, S)) (hrec18 : ∀ (v3 : Int32) (S : aSt), rec18 v3 S = (some r) → aX C M_L_law 59 27715 (18, [(0, .ref 1000), (1, .ref 0), (2, .ref 42), (3, .int v3)], [], LAY, S)) (v3 : Int32) (S : aSt) (hf : L_law_1000_c0_b18 N L xs rec18 v3 S = (some r)) : aX C M_L_law 59 27715 (18, [(0, .ref 1000), (1, .ref 0), (2, .ref 42), (3, .int v3)], [], LAY, S) := by
  have hT := ok_L_law
  unfold L_law_1000_c0_b18 at hf
  refine aRun_ok hC hT 2 (cf' := (20, [(0, .ref 1000), (1, .ref 0), (2, .ref 42), (3, .int v3)], [.ref 1000, .int v3], LAY, S)) (by rfl) ?_
  refine aAlenX hC hT hSc rfl ?_
  refine aRun_ok hC hT 2 (cf' := (23, [(0, .ref 1000), (1, .ref 0), (2, .ref 42), (3, .int v3)], [.int ((Int32.ofNat L) - (4 : Int32)), .int v3], LAY, S)) (by rfl) ?_
  refine aCmp_gt hC hT (tgt := 946) rfl (by decide) (fun hc5 => ?_) (fun hc5 => ?_)
  · have hf := aIfT hf hc5
    refine aRun_ok hC hT 1 (cf' := (947, [(0, .ref 1000), (1, .ref 0), (2, .ref 42), (3, .int v3)], [.int (1 : Int32)], LAY, S)) (by rfl) ?_
    have e9 := Option.some.inj hf; subst e9
    exact hF.2 _ _ _ rfl
  · have hf := aIfF hf hc5
    refine aRun_ok hC hT 2 (cf' := (28, [(0, .ref 1000), (1, .ref 0), (2, .ref 42), (3, .int v3)], [.int v3, .ref 1000], LAY, S)) (by rfl) ?_
    obtain ⟨hin6, hf⟩ := aGdE hf
    refine aIaldX hC hT hSc rfl hin6 ?_
    refine aRun_ok hC hT 2 (cf' := (32, [(0, .ref 1000), (1, .ref 0), (2, .ref 42), (3, .int v3)], [.int ((xs v3.toNatClampNeg) &&& (31 : Int32))], LAY, S)) (by rfl) ?_
    rcases aTswE hf with ⟨hc7, hf⟩ | ⟨hc7, hf⟩
    · refine aTswD hC hT (tgt := 940) rfl hc7 (by decide) ?_
      exact L_law_1000_c0_b940_ok hC hSc hF hrec18 v3 S hf
    · rcases aIfE hf with ⟨hc8, hf⟩ | ⟨-, hf⟩
      · refine aTsw hC hT (off := 116) (tgt := 148) rfl (0 : Int32) hc8 (by decide) (by decide) (by rfl) (by decide) ?_
        refine aRun_ok hC hT 5 (cf' := (153, [(0, .ref 1000), (1, .ref 0), (2, .ref 42), (3, .int v3)], [.int (v3 + (1 : Int32)), .ref 1000, .ref 0], LAY, S)) (by rfl) ?_
        obtain ⟨hin9, hf⟩ := aGdE hf
        refine aIaldX hC hT hSc rfl hin9 ?_
        refine aRun_ok hC hT 7 (cf' := (162, [(0, .ref 1000), (1, .ref 0), (2, .ref 42), (3, .int v3)], [.int (v3 + (2 : Int32)), .ref 1000, .long (((xs (v3 + (1 : Int32)).toNatClampNeg).toInt64) <<< ((32 : Int32).toInt64 &&& 63)), .ref 0], LAY, S)) (by rfl) ?_
        obtain ⟨hin10, hf⟩ := aGdE hf
        refine aIaldX hC hT hSc rfl hin10 ?_
        refine aRun_ok hC hT 8 (cf' := (173, [(0, .ref 1000), (1, .ref 0), (2, .ref 42), (3, .int v3)], [.int (v3 + (3 : Int32)), .ref 1000, .long ((((xs (v3 + (1 : Int32)).toNatClampNeg).toInt64) <<< ((32 : Int32).toInt64 &&& 63)) ||| (((xs (v3 + (2 : Int32)).toNatClampNeg).toInt64) &&& (4294967295 : Int64))), .ref 0], LAY, S)) (by rfl) ?_
        obtain ⟨hin11, hf⟩ := aGdE hf
        refine aIaldX hC hT hSc rfl hin11 ?_
        obtain ⟨w12, ew13, hf⟩ := aBnE hf
        refine aCallV (b := 0) (As := [.long ((((xs (v3 + (1 : Int32)).toNatClampNeg).toInt64) <<< ((32 : Int32).toInt64 &&& 63)) ||| (((xs (v3 + (2 : Int32)).toNatClampNeg).toInt64) &&& (4294967295 : Int64))), .int (xs (v3 + (3 : Int32)).toNatClampNeg)]) (rest := []) hC hT rfl k_L_law_15.1 _ _ k_L_law_15.2 (by decide) (by rfl) (by rfl) (by rfl) (Nat.le_of_ble_eq_true rfl) (by decide) (J_X10_write_0 C.2.2.1 C.1 N ((((xs (v3 + (1 : Int32)).toNatClampNeg).toInt64) <<< ((32 : Int32).toInt64 &&& 63)) ||| (((xs (v3 + (2 : Int32)).toNatClampNeg).toInt64) &&& (4294967295 : Int64))) (xs (v3 + (3 : Int32)).toNatClampNeg) S ew13) ?_
        refine aRun_ok hC hT 5 (cf' := (182, [(0, .ref 1000), (1, .ref 0), (2, .ref 42), (3, .int v3)], [.int (v3 + (1 : Int32)), .ref 1000, .ref 42, .int w12.1], LAY, w12.2)) (by rfl) ?_
        obtain ⟨hin14, hf⟩ := aGdE hf
        refine aIaldX hC hT hSc rfl hin14 ?_
        refine aRun_ok hC hT 7 (cf' := (191, [(0, .ref 1000), (1, .ref 0), (2, .ref 42), (3, .int v3)], [.int (v3 + (2 : Int32)), .ref 1000, .long (((xs (v3 + (1 : Int32)).toNatClampNeg).toInt64) <<< ((32 : Int32).toInt64 &&& 63)), .ref 42, .int w12.1], LAY, w12.2)) (by rfl) ?_
        obtain ⟨hin15, hf⟩ := aGdE hf
        refine aIaldX hC hT hSc rfl hin15 ?_
        refine aRun_ok hC hT 8 (cf' := (202, [(0, .ref 1000), (1, .ref 0), (2, .ref 42), (3, .int v3)], [.int (v3 + (3 : Int32)), .ref 1000, .long ((((xs (v3 + (1 : Int32)).toNatClampNeg).toInt64) <<< ((32 : Int32).toInt64 &&& 63)) ||| (((xs (v3 + (2 : Int32)).toNatClampNeg).toInt64) &&& (4294967295 : Int64))), .ref 42, .int w12.1], LAY, w12.2)) (by rfl) ?_
        obtain ⟨hin16, hf⟩ := aGdE hf
        refine aIaldX hC hT hSc rfl hin16 ?_
        obtain ⟨w17, ew18, hf⟩ := aBnE hf
        refine aCallV (b := 42) (As := [.long ((((xs (v3 + (1 : Int32)).toNatClampNeg).toInt64) <<< ((32 : Int32).toInt64 &&& 63)) ||| (((xs (v3 + (2 : Int32)).toNatClampNeg).toInt64) &&& (4294967295 : Int64))), .int (xs (v3 + (3 : Int32)).toNatClampNeg)]) (rest := [.int w12.1]) hC hT rfl k_L_law_19.1 _ _ k_L_law_19.2 (by decide) (by rfl) (by rfl) (by rfl) (Nat.le_of_ble_eq_true rfl) (by decide) (J_X11_write_42 C.2.2.1 C.1 N ((((xs (v3 + (1 : Int32)).toNatClampNeg).toInt64) <<< ((32 : Int32).toInt64 &&& 63)) ||| (((xs (v3 + (2 : Int32)).toNatClampNeg).toInt64) &&& (4294967295 : Int64))) (xs (v3 + (3 : Int32)).toNatClampNeg) w12.2 ew18) ?_
        refine aCmp_eq hC hT (tgt := 940) rfl (by decide) (fun hc19 => ?_) (fun hc19 => ?_)
        · have hf := aIfT hf hc19
          exact L_law_1000_c0_b940_ok hC hSc hF hrec18 v3 w17.2 hf
        · have hf := aIfF hf hc19
          refine aRun_ok hC hT 1 (cf' := (210, [(0, .ref 1000), (1, .ref 0), (2, .ref 42), (3, .int v3)], [.int (0 : Int32)], LAY, w17.2)) (by rfl) ?_
          have e9 := Option.some.inj hf; subst e9
          exact absurd hF.1 (by decide)
      · rcases aIfE hf with ⟨hc20, hf⟩ | ⟨-, hf⟩
        · refine aTsw hC hT (off := 179) (tgt := 211) rfl (1 : Int32) hc20 (by decide) (by decide) (by rfl) (by decide) ?_
          refine aRun_ok hC hT 1 (cf' := (212, [(0, .ref 1000), (1, .ref 0), (2, .ref 42), (3, .int v3)], [.ref 0], LAY, S)) (by rfl) ?_
          obtain ⟨w21, ew22, hf⟩ := aLetE hf
          refine aCallV (b := 0) (As := []) (rest := []) hC hT rfl k_L_law_20.1 _ _ k_L_law_20.2 (by decide) (by rfl) (by rfl) (by rfl) (Nat.le_of_ble_eq_true rfl) (by decide) (J_X10_erase_0 C.2.2.1 C.1  S ew22) ?_
          refine aRun_ok hC hT 1 (cf' := (216, [(0, .ref 1000), (1, .ref 0), (2, .ref 42), (3, .int v3)], [.ref 42, .int w21.1], LAY, w21.2)) (by rfl) ?_
          obtain ⟨w23, ew24, hf⟩ := aLetE hf
          refine aCallV (b := 42) (As := []) (rest := [.int w21.1]) hC hT rfl k_L_law_24.1 _ _ k_L_law_24.2 (by decide) (by rfl) (by rfl) (by rfl) (Nat.le_of_ble_eq_true rfl) (by decide) (J_X11_erase_42 C.2.2.1 C.1  w21.2 ew24) ?_
          refine aCmp_eq hC hT (tgt := 940) rfl (by decide) (fun hc25 => ?_) (fun hc25 => ?_)
          · have hf := aIfT hf hc25
            exact L_law_1000_c0_b940_ok hC hSc hF hrec18 v3 w23.2 hf
          · have hf := aIfF hf hc25
            refine aRun_ok hC hT 1 (cf' := (223, [(0, .ref 1000), (1, .ref 0), (2, .ref 42), (3, .int v3)], [.int (0 : Int32)], LAY, w23.2)) (by rfl) ?_
            have e9 := Option.some.inj hf; subst e9
            exact absurd hF.1 (by decide)
        · rcases aIfE hf with ⟨hc26, hf⟩ | ⟨-, hf⟩
          · refine aTsw hC hT (off := 192) (tgt := 224) rfl (2 : Int32) hc26 (by decide) (by decide) (by rfl) (by decide) ?_
            refine aRun_ok hC hT 1 (cf' := (225, [(0, .ref 1000), (1, .ref 0), (2, .ref 42), (3, .int v3)], [.ref 0], LAY, S)) (by rfl) ?_
            obtain ⟨w27, ew28, hf⟩ := aBnE hf
            refine aCallV (b := 0) (As := []) (rest := []) hC hT rfl k_L_law_25.1 _ _ k_L_law_25.2 (by decide) (by rfl) (by rfl) (by rfl) (Nat.le_of_ble_eq_true rfl) (by decide) (J_X10_fault_0 C.2.2.1 C.1 N  S ew28) ?_
            refine aRun_ok hC hT 1 (cf' := (229, [(0, .ref 1000), (1, .ref 0), (2, .ref 42), (3, .int v3)], [.ref 42, .int w27.1], LAY, w27.2)) (by rfl) ?_
            obtain ⟨w29, ew30, hf⟩ := aBnE hf
            refine aCallV (b := 42) (As := []) (rest := [.int w27.1]) hC hT rfl k_L_law_28.1 _ _ k_L_law_28.2 (by decide) (by rfl) (by rfl) (by rfl) (Nat.le_of_ble_eq_true rfl) (by decide) (J_X11_fault_42 C.2.2.1 C.1 N  w27.2 ew30) ?_
            refine aCmp_eq hC hT (tgt := 940) rfl (by decide) (fun hc31 => ?_) (fun hc31 => ?_)
            · have hf := aIfT hf hc31
              exact L_law_1000_c0_b940_ok hC hSc hF hrec18 v3 w29.2 hf
            · have hf := aIfF hf hc31
              refine aRun_ok hC hT 1 (cf' := (236, [(0, .ref 1000), (1, .ref 0), (2, .ref 42), (3, .int v3)], [.int (0 : Int32)], LAY, w29.2)) (by rfl) ?_
              have e9 := Option.some.inj hf; subst e9
              exact absurd hF.1 (by decide)
          · rcases aIfE hf with ⟨hc32, hf⟩ | ⟨-, hf⟩
            · refine aTsw hC hT (off := 205) (tgt := 237) rfl (3 : Int32) hc32 (by decide) (by decide) (by rfl) (by decide) ?_
              refine aRun_ok hC hT 1 (cf' := (238, [(0, .ref 1000), (1, .ref 0), (2, .ref 42), (3, .int v3)], [.ref 0], LAY, S)) (by rfl) ?_
              obtain ⟨w33, ew34, hf⟩ := aBnE hf
              refine aCallV (b := 0) (As := []) (rest := []) hC hT rfl k_L_law_29.1 _ _ k_L_law_29.2 (by decide) (by rfl) (by rfl) (by rfl) (Nat.le_of_ble_eq_true rfl) (by decide) (J_X10_book_0 C.2.2.1 C.1 N  S ew34) ?_
              refine aRun_ok hC hT 1 (cf' := (242, [(0, .ref 1000), (1, .ref 0), (2, .ref 42), (3, .int v3)], [.ref 42, .int w33.1], LAY, w33.2)) (by rfl) ?_
              obtain ⟨w35, ew36, hf⟩ := aBnE hf
              refine aCallV (b := 42) (As := []) (rest := [.int w33.1]) hC hT rfl k_L_law_32.1 _ _ k_L_law_32.2 (by decide) (by rfl) (by rfl) (by rfl) (Nat.le_of_ble_eq_true rfl) (by decide) (J_X11_book_42 C.2.2.1 C.1 N  w33.2 ew36) ?_
              refine aCmp_eq hC hT (tgt := 940) rfl (by decide) (fun hc37 => ?_) (fun hc37 => ?_)
              · have hf := aIfT hf hc37
                exact L_law_1000_c0_b940_ok hC hSc hF hrec18 v3 w35.2 hf
              · have hf := aIfF hf hc37
                refine aRun_ok hC hT 1 (cf' := (249, [(0, .ref 1000), (1, .ref 0), (2, .ref 42), (3, .int v3)], [.int (0 : Int32)], LAY, w35.2)) (by rfl) ?_
                have e9 := Option.some.inj hf; subst e9
                exact absurd hF.1 (by decide)
            · rcases aIfE hf with ⟨hc38, hf⟩ | ⟨-, hf⟩
              · refine aTsw hC hT (off := 218) (tgt := 250) rfl (4 : Int32) hc38 (by decide) (by decide) (by rfl) (by decide) ?_
                refine aRun_ok hC hT 5 (cf' := (255, [(0, .ref 1000), (1, .ref 0), (2, .ref 42), (3, .int v3)], [.int (v3 + (1 : Int32)), .ref 1000, .ref 0], LAY, S)) (by rfl) ?_
                obtain ⟨hin39, hf⟩ := aGdE hf
                refine aIaldX hC hT hSc rfl hin39 ?_
                refine aRun_ok hC hT 4 (cf' := (260, [(0, .ref 1000), (1, .ref 0), (2, .ref 42), (3, .int v3)], [.int (v3 + (2 : Int32)), .ref 1000, .int (xs (v3 + (1 : Int32)).toNatClampNeg), .ref 0], LAY, S)) (by rfl) ?_
                obtain ⟨hin40, hf⟩ := aGdE hf
                refine aIaldX hC hT hSc rfl hin40 ?_
                obtain ⟨w41, ew42, hf⟩ := aLetE hf
                refine aCallV (b := 0) (As := [.int (xs (v3 + (1 : Int32)).toNatClampNeg), .int (xs (v3 + (2 : Int32)).toNatClampNeg)]) (rest := []) hC hT rfl k_L_law_33.1 _ _ k_L_law_33.2 (by decide) (by rfl) (by rfl) (by rfl) (Nat.le_of_ble_eq_true rfl) (by decide) (J_X10_entry_0 C.2.2.1 C.1 (xs (v3 + (1 : Int32)).toNatClampNeg) (xs (v3 + (2 : Int32)).toNatClampNeg) S ew42) ?_
                refine aRun_ok hC hT 5 (cf' := (269, [(0, .ref 1000), (1, .ref 0), (2, .ref 42), (3, .int v3)], [.int (v3 + (1 : Int32)), .ref 1000, .ref 42, .int w41], LAY, S)) (by rfl) ?_
                obtain ⟨hin43, hf⟩ := aGdE hf
                refine aIaldX hC hT hSc rfl hin43 ?_
                refine aRun_ok hC hT 4 (cf' := (274, [(0, .ref 1000), (1, .ref 0), (2, .ref 42), (3, .int v3)], [.int (v3 + (2 : Int32)), .ref 1000, .int (xs (v3 + (1 : Int32)).toNatClampNeg), .ref 42, .int w41], LAY, S)) (by rfl) ?_
                obtain ⟨hin44, hf⟩ := aGdE hf
                refine aIaldX hC hT hSc rfl hin44 ?_
                obtain ⟨w45, ew46, hf⟩ := aBnE hf
                refine aCallV (b := 42) (As := [.int (xs (v3 + (1 : Int32)).toNatClampNeg), .int (xs (v3 + (2 : Int32)).toNatClampNeg)]) (rest := [.int w41]) hC hT rfl k_L_law_37.1 _ _ k_L_law_37.2 (by decide) (by rfl) (by rfl) (by rfl) (Nat.le_of_ble_eq_true rfl) (by decide) (J_X11_entry_42 C.2.2.1 C.1 N (xs (v3 + (1 : Int32)).toNatClampNeg) (xs (v3 + (2 : Int32)).toNatClampNeg) S ew46) ?_
                refine aCmp_eq hC hT (tgt := 940) rfl (by decide) (fun hc47 => ?_) (fun hc47 => ?_)
                · have hf := aIfT hf hc47
                  exact L_law_1000_c0_b940_ok hC hSc hF hrec18 v3 S hf
                · have hf := aIfF hf hc47
                  refine aRun_ok hC hT 1 (cf' := (282, [(0, .ref 1000), (1, .ref 0), (2, .ref 42), (3, .int v3)], [.int (0 : Int32)], LAY, S)) (by rfl) ?_
                  have e9 := Option.some.inj hf; subst e9
                  exact absurd hF.1 (by decide)
              · rcases aIfE hf with ⟨hc48, hf⟩ | ⟨-, hf⟩
                · refine aTsw hC hT (off := 251) (tgt := 283) rfl (5 : Int32) hc48 (by decide) (by decide) (by rfl) (by decide) ?_
                  refine aRun_ok hC hT 5 (cf' := (288, [(0, .ref 1000), (1, .ref 0), (2, .ref 42), (3, .int v3)], [.int (v3 + (1 : Int32)), .ref 1000, .ref 0], LAY, S)) (by rfl) ?_
                  obtain ⟨hin49, hf⟩ := aGdE hf
                  refine aIaldX hC hT hSc rfl hin49 ?_
                  obtain ⟨w50, ew51, hf⟩ := aBnE hf
                  refine aCallV (b := 0) (As := [.int (xs (v3 + (1 : Int32)).toNatClampNeg)]) (rest := []) hC hT rfl k_L_law_38.1 _ _ k_L_law_38.2 (by decide) (by rfl) (by rfl) (by rfl) (Nat.le_of_ble_eq_true rfl) (by decide) (J_X10_out_0 C.2.2.1 C.1 N (xs (v3 + (1 : Int32)).toNatClampNeg) S ew51) ?_
                  refine aRun_ok hC hT 5 (cf' := (297, [(0, .ref 1000), (1, .ref 0), (2, .ref 42), (3, .int v3)], [.int (v3 + (1 : Int32)), .ref 1000, .ref 42, .int w50], LAY, S)) (by rfl) ?_
                  obtain ⟨hin52, hf⟩ := aGdE hf
                  refine aIaldX hC hT hSc rfl hin52 ?_
                  obtain ⟨w53, ew54, hf⟩ := aBnE hf
                  refine aCallV (b := 42) (As := [.int (xs (v3 + (1 : Int32)).toNatClampNeg)]) (rest := [.int w50]) hC hT rfl k_L_law_42.1 _ _ k_L_law_42.2 (by decide) (by rfl) (by rfl) (by rfl) (Nat.le_of_ble_eq_true rfl) (by decide) (J_X11_out_42 C.2.2.1 C.1 N (xs (v3 + (1 : Int32)).toNatClampNeg) S ew54) ?_
                  refine aCmp_eq hC hT (tgt := 940) rfl (by decide) (fun hc55 => ?_) (fun hc55 => ?_)
                  · have hf := aIfT hf hc55
                    exact L_law_1000_c0_b940_ok hC hSc hF hrec18 v3 S hf
                  · have hf := aIfF hf hc55
                    refine aRun_ok hC hT 1 (cf' := (305, [(0, .ref 1000), (1, .ref 0), (2, .ref 42), (3, .int v3)], [.int (0 : Int32)], LAY, S)) (by rfl) ?_
                    have e9 := Option.some.inj hf; subst e9
                    exact absurd hF.1 (by decide)
                · rcases aIfE hf with ⟨hc56, hf⟩ | ⟨-, hf⟩
                  · refine aTsw hC hT (off := 274) (tgt := 306) rfl (6 : Int32) hc56 (by decide) (by decide) (by rfl) (by decide) ?_
                    refine aRun_ok hC hT 5 (cf' := (311, [(0, .ref 1000), (1, .ref 0), (2, .ref 42), (3, .int v3)], [.int (v3 + (1 : Int32)), .ref 1000, .ref 0], LAY, S)) (by rfl) ?_
                    obtain ⟨hin57, hf⟩ := aGdE hf
                    refine aIaldX hC hT hSc rfl hin57 ?_
                    obtain ⟨w58, ew59, hf⟩ := aBnE hf
                    refine aCallV (b := 0) (As := [.int (xs (v3 + (1 : Int32)).toNatClampNeg)]) (rest := []) hC hT rfl k_L_law_43.1 _ _ k_L_law_43.2 (by decide) (by rfl) (by rfl) (by rfl) (Nat.le_of_ble_eq_true rfl) (by decide) (J_X10_off_0 C.2.2.1 C.1 N (xs (v3 + (1 : Int32)).toNatClampNeg) S ew59) ?_
                    refine aRun_ok hC hT 5 (cf' := (320, [(0, .ref 1000), (1, .ref 0), (2, .ref 42), (3, .int v3)], [.int (v3 + (1 : Int32)), .ref 1000, .ref 42, .int w58], LAY, S)) (by rfl) ?_
                    obtain ⟨hin60, hf⟩ := aGdE hf
                    refine aIaldX hC hT hSc rfl hin60 ?_
                    obtain ⟨w61, ew62, hf⟩ := aBnE hf
                    refine aCallV (b := 42) (As := [.int (xs (v3 + (1 : Int32)).toNatClampNeg)]) (rest := [.int w58]) hC hT rfl k_L_law_46.1 _ _ k_L_law_46.2 (by decide) (by rfl) (by rfl) (by rfl) (Nat.le_of_ble_eq_true rfl) (by decide) (J_X11_off_42 C.2.2.1 C.1 N (xs (v3 + (1 : Int32)).toNatClampNeg) S ew62) ?_
                    refine aCmp_eq hC hT (tgt := 940) rfl (by decide) (fun hc63 => ?_) (fun hc63 => ?_)
                    · have hf := aIfT hf hc63
                      exact L_law_1000_c0_b940_ok hC hSc hF hrec18 v3 S hf
                    · have hf := aIfF hf hc63
                      refine aRun_ok hC hT 1 (cf' := (328, [(0, .ref 1000), (1, .ref 0), (2, .ref 42), (3, .int v3)], [.int (0 : Int32)], LAY, S)) (by rfl) ?_
                      have e9 := Option.some.inj hf; subst e9
                      exact absurd hF.1 (by decide)
                  · rcases aIfE hf with ⟨hc64, hf⟩ | ⟨-, hf⟩
                    · refine aTsw hC hT (off := 297) (tgt := 329) rfl (7 : Int32) hc64 (by decide) (by decide) (by rfl) (by decide) ?_
                      refine aRun_ok hC hT 5 (cf' := (334, [(0, .ref 1000), (1, .ref 0), (2, .ref 42), (3, .int v3)], [.int (v3 + (1 : Int32)), .ref 1000, .ref 0], LAY, S)) (by rfl) ?_
                      obtain ⟨hin65, hf⟩ := aGdE hf
                      refine aIaldX hC hT hSc rfl hin65 ?_
                      refine aRun_ok hC hT 4 (cf' := (339, [(0, .ref 1000), (1, .ref 0), (2, .ref 42), (3, .int v3)], [.int (v3 + (2 : Int32)), .ref 1000, .int (xs (v3 + (1 : Int32)).toNatClampNeg), .ref 0], LAY, S)) (by rfl) ?_
                      obtain ⟨hin66, hf⟩ := aGdE hf
                      refine aIaldX hC hT hSc rfl hin66 ?_
                      obtain ⟨w67, ew68, hf⟩ := aLetE hf
                      refine aCallV (b := 0) (As := [.int (xs (v3 + (1 : Int32)).toNatClampNeg), .int (xs (v3 + (2 : Int32)).toNatClampNeg)]) (rest := []) hC hT rfl k_L_law_47.1 _ _ k_L_law_47.2 (by decide) (by rfl) (by rfl) (by rfl) (Nat.le_of_ble_eq_true rfl) (by decide) (J_X10_odds_0 C.2.2.1 C.1 (xs (v3 + (1 : Int32)).toNatClampNeg) (xs (v3 + (2 : Int32)).toNatClampNeg) S ew68) ?_
                      refine aRun_ok hC hT 5 (cf' := (348, [(0, .ref 1000), (1, .ref 0), (2, .ref 42), (3, .int v3)], [.int (v3 + (1 : Int32)), .ref 1000, .ref 42, .int w67], LAY, S)) (by rfl) ?_
                      obtain ⟨hin69, hf⟩ := aGdE hf
                      refine aIaldX hC hT hSc rfl hin69 ?_
                      refine aRun_ok hC hT 4 (cf' := (353, [(0, .ref 1000), (1, .ref 0), (2, .ref 42), (3, .int v3)], [.int (v3 + (2 : Int32)), .ref 1000, .int (xs (v3 + (1 : Int32)).toNatClampNeg), .ref 42, .int w67], LAY, S)) (by rfl) ?_
                      obtain ⟨hin70, hf⟩ := aGdE hf
                      refine aIaldX hC hT hSc rfl hin70 ?_
                      obtain ⟨w71, ew72, hf⟩ := aBnE hf
                      refine aCallV (b := 42) (As := [.int (xs (v3 + (1 : Int32)).toNatClampNeg), .int (xs (v3 + (2 : Int32)).toNatClampNeg)]) (rest := [.int w67]) hC hT rfl k_L_law_50.1 _ _ k_L_law_50.2 (by decide) (by rfl) (by rfl) (by rfl) (Nat.le_of_ble_eq_true rfl) (by decide) (J_X11_odds_42 C.2.2.1 C.1 N (xs (v3 + (1 : Int32)).toNatClampNeg) (xs (v3 + (2 : Int32)).toNatClampNeg) S ew72) ?_
                      refine aCmp_eq hC hT (tgt := 940) rfl (by decide) (fun hc73 => ?_) (fun hc73 => ?_)
                      · have hf := aIfT hf hc73
                        exact L_law_1000_c0_b940_ok hC hSc hF hrec18 v3 S hf
                      · have hf := aIfF hf hc73
                        refine aRun_ok hC hT 1 (cf' := (361, [(0, .ref 1000), (1, .ref 0), (2, .ref 42), (3, .int v3)], [.int (0 : Int32)], LAY, S)) (by rfl) ?_
                        have e9 := Option.some.inj hf; subst e9
                        exact absurd hF.1 (by decide)
                    · rcases aIfE hf with ⟨hc74, hf⟩ | ⟨-, hf⟩
                      · refine aTsw hC hT (off := 330) (tgt := 362) rfl (8 : Int32) hc74 (by decide) (by decide) (by rfl) (by decide) ?_
                        refine aRun_ok hC hT 5 (cf' := (367, [(0, .ref 1000), (1, .ref 0), (2, .ref 42), (3, .int v3)], [.int (v3 + (1 : Int32)), .ref 1000, .ref 0], LAY, S)) (by rfl) ?_
                        obtain ⟨hin75, hf⟩ := aGdE hf
                        refine aIaldX hC hT hSc rfl hin75 ?_
                        refine aRun_ok hC hT 4 (cf' := (372, [(0, .ref 1000), (1, .ref 0), (2, .ref 42), (3, .int v3)], [.int (v3 + (2 : Int32)), .ref 1000, .int (xs (v3 + (1 : Int32)).toNatClampNeg), .ref 0], LAY, S)) (by rfl) ?_
                        obtain ⟨hin76, hf⟩ := aGdE hf
                        refine aIaldX hC hT hSc rfl hin76 ?_
                        obtain ⟨w77, ew78, hf⟩ := aLetE hf
                        refine aCallV (b := 0) (As := [.int (xs (v3 + (1 : Int32)).toNatClampNeg), .int (xs (v3 + (2 : Int32)).toNatClampNeg)]) (rest := []) hC hT rfl k_L_law_51.1 _ _ k_L_law_51.2 (by decide) (by rfl) (by rfl) (by rfl) (Nat.le_of_ble_eq_true rfl) (by decide) (J_X10_learn_0 C.2.2.1 C.1 (xs (v3 + (1 : Int32)).toNatClampNeg) (xs (v3 + (2 : Int32)).toNatClampNeg) S ew78) ?_
                        refine aRun_ok hC hT 5 (cf' := (381, [(0, .ref 1000), (1, .ref 0), (2, .ref 42), (3, .int v3)], [.int (v3 + (1 : Int32)), .ref 1000, .ref 42, .int w77.1], LAY, w77.2)) (by rfl) ?_
                        obtain ⟨hin79, hf⟩ := aGdE hf
                        refine aIaldX hC hT hSc rfl hin79 ?_
                        refine aRun_ok hC hT 4 (cf' := (386, [(0, .ref 1000), (1, .ref 0), (2, .ref 42), (3, .int v3)], [.int (v3 + (2 : Int32)), .ref 1000, .int (xs (v3 + (1 : Int32)).toNatClampNeg), .ref 42, .int w77.1], LAY, w77.2)) (by rfl) ?_
                        obtain ⟨hin80, hf⟩ := aGdE hf
                        refine aIaldX hC hT hSc rfl hin80 ?_
                        obtain ⟨w81, ew82, hf⟩ := aBnE hf
                        refine aCallV (b := 42) (As := [.int (xs (v3 + (1 : Int32)).toNatClampNeg), .int (xs (v3 + (2 : Int32)).toNatClampNeg)]) (rest := [.int w77.1]) hC hT rfl k_L_law_54.1 _ _ k_L_law_54.2 (by decide) (by rfl) (by rfl) (by rfl) (Nat.le_of_ble_eq_true rfl) (by decide) (J_X11_learn_42 C.2.2.1 C.1 N (xs (v3 + (1 : Int32)).toNatClampNeg) (xs (v3 + (2 : Int32)).toNatClampNeg) w77.2 ew82) ?_
                        refine aCmp_eq hC hT (tgt := 940) rfl (by decide) (fun hc83 => ?_) (fun hc83 => ?_)
                        · have hf := aIfT hf hc83
                          exact L_law_1000_c0_b940_ok hC hSc hF hrec18 v3 w81.2 hf
                        · have hf := aIfF hf hc83
                          refine aRun_ok hC hT 1 (cf' := (394, [(0, .ref 1000), (1, .ref 0), (2, .ref 42), (3, .int v3)], [.int (0 : Int32)], LAY, w81.2)) (by rfl) ?_
                          have e9 := Option.some.inj hf; subst e9
                          exact absurd hF.1 (by decide)
                      · rcases aIfE hf with ⟨hc84, hf⟩ | ⟨-, hf⟩
                        · refine aTsw hC hT (off := 363) (tgt := 395) rfl (9 : Int32) hc84 (by decide) (by decide) (by rfl) (by decide) ?_
                          refine aRun_ok hC hT 5 (cf' := (400, [(0, .ref 1000), (1, .ref 0), (2, .ref 42), (3, .int v3)], [.int (v3 + (1 : Int32)), .ref 1000, .ref 0], LAY, S)) (by rfl) ?_
                          obtain ⟨hin85, hf⟩ := aGdE hf
                          refine aIaldX hC hT hSc rfl hin85 ?_
                          refine aRun_ok hC hT 4 (cf' := (405, [(0, .ref 1000), (1, .ref 0), (2, .ref 42), (3, .int v3)], [.int (v3 + (2 : Int32)), .ref 1000, .int (xs (v3 + (1 : Int32)).toNatClampNeg), .ref 0], LAY, S)) (by rfl) ?_
                          obtain ⟨hin86, hf⟩ := aGdE hf
                          refine aIaldX hC hT hSc rfl hin86 ?_
                          refine aRun_ok hC hT 4 (cf' := (410, [(0, .ref 1000), (1, .ref 0), (2, .ref 42), (3, .int v3)], [.int (v3 + (3 : Int32)), .ref 1000, .int (xs (v3 + (2 : Int32)).toNatClampNeg), .int (xs (v3 + (1 : Int32)).toNatClampNeg), .ref 0], LAY, S)) (by rfl) ?_
                          obtain ⟨hin87, hf⟩ := aGdE hf
                          refine aIaldX hC hT hSc rfl hin87 ?_
                          obtain ⟨w88, ew89, hf⟩ := aBnE hf
                          refine aCallV (b := 0) (As := [.int (xs (v3 + (1 : Int32)).toNatClampNeg), .int (xs (v3 + (2 : Int32)).toNatClampNeg), .int (xs (v3 + (3 : Int32)).toNatClampNeg)]) (rest := []) hC hT rfl k_L_law_55.1 _ _ k_L_law_55.2 (by decide) (by rfl) (by rfl) (by rfl) (Nat.le_of_ble_eq_true rfl) (by decide) (J_X10_mend_0 C.2.2.1 C.1 N (xs (v3 + (1 : Int32)).toNatClampNeg) (xs (v3 + (2 : Int32)).toNatClampNeg) (xs (v3 + (3 : Int32)).toNatClampNeg) S ew89) ?_
                          refine aRun_ok hC hT 5 (cf' := (419, [(0, .ref 1000), (1, .ref 0), (2, .ref 42), (3, .int v3)], [.int (v3 + (1 : Int32)), .ref 1000, .ref 42, .int w88.1], LAY, w88.2)) (by rfl) ?_
                          obtain ⟨hin90, hf⟩ := aGdE hf
                          refine aIaldX hC hT hSc rfl hin90 ?_
                          refine aRun_ok hC hT 4 (cf' := (424, [(0, .ref 1000), (1, .ref 0), (2, .ref 42), (3, .int v3)], [.int (v3 + (2 : Int32)), .ref 1000, .int (xs (v3 + (1 : Int32)).toNatClampNeg), .ref 42, .int w88.1], LAY, w88.2)) (by rfl) ?_
                          obtain ⟨hin91, hf⟩ := aGdE hf
                          refine aIaldX hC hT hSc rfl hin91 ?_
                          refine aRun_ok hC hT 4 (cf' := (429, [(0, .ref 1000), (1, .ref 0), (2, .ref 42), (3, .int v3)], [.int (v3 + (3 : Int32)), .ref 1000, .int (xs (v3 + (2 : Int32)).toNatClampNeg), .int (xs (v3 + (1 : Int32)).toNatClampNeg), .ref 42, .int w88.1], LAY, w88.2)) (by rfl) ?_
                          obtain ⟨hin92, hf⟩ := aGdE hf
                          refine aIaldX hC hT hSc rfl hin92 ?_
                          obtain ⟨w93, ew94, hf⟩ := aBnE hf
                          refine aCallV (b := 42) (As := [.int (xs (v3 + (1 : Int32)).toNatClampNeg), .int (xs (v3 + (2 : Int32)).toNatClampNeg), .int (xs (v3 + (3 : Int32)).toNatClampNeg)]) (rest := [.int w88.1]) hC hT rfl k_L_law_59.1 _ _ k_L_law_59.2 (by decide) (by rfl) (by rfl) (by rfl) (Nat.le_of_ble_eq_true rfl) (by decide) (J_X11_mend_42 C.2.2.1 C.1 N (xs (v3 + (1 : Int32)).toNatClampNeg) (xs (v3 + (2 : Int32)).toNatClampNeg) (xs (v3 + (3 : Int32)).toNatClampNeg) w88.2 ew94) ?_
                          refine aCmp_eq hC hT (tgt := 940) rfl (by decide) (fun hc95 => ?_) (fun hc95 => ?_)
                          · have hf := aIfT hf hc95
                            exact L_law_1000_c0_b940_ok hC hSc hF hrec18 v3 w93.2 hf
                          · have hf := aIfF hf hc95
                            refine aRun_ok hC hT 1 (cf' := (437, [(0, .ref 1000), (1, .ref 0), (2, .ref 42), (3, .int v3)], [.int (0 : Int32)], LAY, w93.2)) (by rfl) ?_
                            have e9 := Option.some.inj hf; subst e9
                            exact absurd hF.1 (by decide)
                        · rcases aIfE hf with ⟨hc96, hf⟩ | ⟨-, hf⟩
                          · refine aTsw hC hT (off := 406) (tgt := 438) rfl (10 : Int32) hc96 (by decide) (by decide) (by rfl) (by decide) ?_
                            refine aRun_ok hC hT 5 (cf' := (443, [(0, .ref 1000), (1, .ref 0), (2, .ref 42), (3, .int v3)], [.int (v3 + (1 : Int32)), .ref 1000, .ref 0], LAY, S)) (by rfl) ?_
                            obtain ⟨hin97, hf⟩ := aGdE hf
                            refine aIaldX hC hT hSc rfl hin97 ?_
                            obtain ⟨w98, ew99, hf⟩ := aBnE hf
                            refine aCallV (b := 0) (As := [.int (xs (v3 + (1 : Int32)).toNatClampNeg)]) (rest := []) hC hT rfl k_L_law_60.1 _ _ k_L_law_60.2 (by decide) (by rfl) (by rfl) (by rfl) (Nat.le_of_ble_eq_true rfl) (by decide) (J_X10_strike_0 C.2.2.1 C.1 N (xs (v3 + (1 : Int32)).toNatClampNeg) S ew99) ?_
                            refine aRun_ok hC hT 5 (cf' := (452, [(0, .ref 1000), (1, .ref 0), (2, .ref 42), (3, .int v3)], [.int (v3 + (1 : Int32)), .ref 1000, .ref 42, .int w98.1], LAY, w98.2)) (by rfl) ?_
                            obtain ⟨hin100, hf⟩ := aGdE hf
                            refine aIaldX hC hT hSc rfl hin100 ?_
                            obtain ⟨w101, ew102, hf⟩ := aBnE hf
                            refine aCallV (b := 42) (As := [.int (xs (v3 + (1 : Int32)).toNatClampNeg)]) (rest := [.int w98.1]) hC hT rfl k_L_law_63.1 _ _ k_L_law_63.2 (by decide) (by rfl) (by rfl) (by rfl) (Nat.le_of_ble_eq_true rfl) (by decide) (J_X11_strike_42 C.2.2.1 C.1 N (xs (v3 + (1 : Int32)).toNatClampNeg) w98.2 ew102) ?_
                            refine aCmp_eq hC hT (tgt := 940) rfl (by decide) (fun hc103 => ?_) (fun hc103 => ?_)
                            · have hf := aIfT hf hc103
                              exact L_law_1000_c0_b940_ok hC hSc hF hrec18 v3 w101.2 hf
                            · have hf := aIfF hf hc103
                              refine aRun_ok hC hT 1 (cf' := (460, [(0, .ref 1000), (1, .ref 0), (2, .ref 42), (3, .int v3)], [.int (0 : Int32)], LAY, w101.2)) (by rfl) ?_
                              have e9 := Option.some.inj hf; subst e9
                              exact absurd hF.1 (by decide)
                          · rcases aIfE hf with ⟨hc104, hf⟩ | ⟨-, hf⟩
                            · refine aTsw hC hT (off := 429) (tgt := 461) rfl (11 : Int32) hc104 (by decide) (by decide) (by rfl) (by decide) ?_
                              refine aRun_ok hC hT 1 (cf' := (462, [(0, .ref 1000), (1, .ref 0), (2, .ref 42), (3, .int v3)], [.ref 0], LAY, S)) (by rfl) ?_
                              obtain ⟨w105, ew106, hf⟩ := aBnE hf
                              refine aCallV (b := 0) (As := []) (rest := []) hC hT rfl k_L_law_64.1 _ _ k_L_law_64.2 (by decide) (by rfl) (by rfl) (by rfl) (Nat.le_of_ble_eq_true rfl) (by decide) (J_X10_signs_0 C.2.2.1 C.1 N  S ew106) ?_
                              refine aRun_ok hC hT 1 (cf' := (466, [(0, .ref 1000), (1, .ref 0), (2, .ref 42), (3, .int v3)], [.ref 42, .int w105], LAY, S)) (by rfl) ?_
                              obtain ⟨w107, ew108, hf⟩ := aBnE hf
                              refine aCallV (b := 42) (As := []) (rest := [.int w105]) hC hT rfl k_L_law_67.1 _ _ k_L_law_67.2 (by decide) (by rfl) (by rfl) (by rfl) (Nat.le_of_ble_eq_true rfl) (by decide) (J_X11_signs_42 C.2.2.1 C.1 N  S ew108) ?_
                              refine aCmp_eq hC hT (tgt := 940) rfl (by decide) (fun hc109 => ?_) (fun hc109 => ?_)
                              · have hf := aIfT hf hc109
                                exact L_law_1000_c0_b940_ok hC hSc hF hrec18 v3 S hf
                              · have hf := aIfF hf hc109
                                refine aRun_ok hC hT 1 (cf' := (473, [(0, .ref 1000), (1, .ref 0), (2, .ref 42), (3, .int v3)], [.int (0 : Int32)], LAY, S)) (by rfl) ?_
                                have e9 := Option.some.inj hf; subst e9
                                exact absurd hF.1 (by decide)
                            · rcases aIfE hf with ⟨hc110, hf⟩ | ⟨-, hf⟩
                              · refine aTsw hC hT (off := 442) (tgt := 474) rfl (12 : Int32) hc110 (by decide) (by decide) (by rfl) (by decide) ?_
                                refine aRun_ok hC hT 5 (cf' := (479, [(0, .ref 1000), (1, .ref 0), (2, .ref 42), (3, .int v3)], [.int (v3 + (1 : Int32)), .ref 1000, .ref 0], LAY, S)) (by rfl) ?_
                                obtain ⟨hin111, hf⟩ := aGdE hf
                                refine aIaldX hC hT hSc rfl hin111 ?_
                                refine aRun_ok hC hT 4 (cf' := (484, [(0, .ref 1000), (1, .ref 0), (2, .ref 42), (3, .int v3)], [.int (v3 + (2 : Int32)), .ref 1000, .int (xs (v3 + (1 : Int32)).toNatClampNeg), .ref 0], LAY, S)) (by rfl) ?_
                                obtain ⟨hin112, hf⟩ := aGdE hf
                                refine aIaldX hC hT hSc rfl hin112 ?_
                                refine aRun_ok hC hT 4 (cf' := (489, [(0, .ref 1000), (1, .ref 0), (2, .ref 42), (3, .int v3)], [.int (v3 + (3 : Int32)), .ref 1000, .int (xs (v3 + (2 : Int32)).toNatClampNeg), .int (xs (v3 + (1 : Int32)).toNatClampNeg), .ref 0], LAY, S)) (by rfl) ?_
                                obtain ⟨hin113, hf⟩ := aGdE hf
                                refine aIaldX hC hT hSc rfl hin113 ?_
                                refine aIf_eq hC hT (tgt := 497) rfl (by decide) (fun hc114 => ?_) (fun hc114 => ?_)
                                · have hf := aIfT hf hc114
                                  refine aRun_ok hC hT 1 (cf' := (498, [(0, .ref 1000), (1, .ref 0), (2, .ref 42), (3, .int v3)], [.int (0 : Int32), .int (xs (v3 + (2 : Int32)).toNatClampNeg), .int (xs (v3 + (1 : Int32)).toNatClampNeg), .ref 0], LAY, S)) (by rfl) ?_
                                  exact L_law_1000_c0_b498_ok hC hSc hF hrec18 v3 (0 : Int32) (xs (v3 + (2 : Int32)).toNatClampNeg) (xs (v3 + (1 : Int32)).toNatClampNeg) S hf
                                · have hf := aIfF hf hc114
                                  refine aRun_ok hC hT 2 (cf' := (498, [(0, .ref 1000), (1, .ref 0), (2, .ref 42), (3, .int v3)], [.int (1 : Int32), .int (xs (v3 + (2 : Int32)).toNatClampNeg), .int (xs (v3 + (1 : Int32)).toNatClampNeg), .ref 0], LAY, S)) (by rfl) ?_
                                  exact L_law_1000_c0_b498_ok hC hSc hF hrec18 v3 (1 : Int32) (xs (v3 + (2 : Int32)).toNatClampNeg) (xs (v3 + (1 : Int32)).toNatClampNeg) S hf
                              · rcases aIfE hf with ⟨hc124, hf⟩ | ⟨-, hf⟩
                                · refine aTsw hC hT (off := 501) (tgt := 533) rfl (13 : Int32) hc124 (by decide) (by decide) (by rfl) (by decide) ?_
                                  refine aRun_ok hC hT 5 (cf' := (538, [(0, .ref 1000), (1, .ref 0), (2, .ref 42), (3, .int v3)], [.int (v3 + (1 : Int32)), .ref 1000, .ref 0], LAY, S)) (by rfl) ?_
                                  obtain ⟨hin125, hf⟩ := aGdE hf
                                  refine aIaldX hC hT hSc rfl hin125 ?_
                                  obtain ⟨w126, ew127, hf⟩ := aBnE hf
                                  refine aCallV (b := 0) (As := [.int (xs (v3 + (1 : Int32)).toNatClampNeg)]) (rest := []) hC hT rfl k_L_law_73.1 _ _ k_L_law_73.2 (by decide) (by rfl) (by rfl) (by rfl) (Nat.le_of_ble_eq_true rfl) (by decide) (J_X10_ofKind_0 C.2.2.1 C.1 N (xs (v3 + (1 : Int32)).toNatClampNeg) S ew127) ?_
                                  refine aRun_ok hC hT 5 (cf' := (547, [(0, .ref 1000), (1, .ref 0), (2, .ref 42), (3, .int v3)], [.int (v3 + (1 : Int32)), .ref 1000, .ref 42, .int w126.1], LAY, w126.2)) (by rfl) ?_
                                  obtain ⟨hin128, hf⟩ := aGdE hf
                                  refine aIaldX hC hT hSc rfl hin128 ?_
                                  obtain ⟨w129, ew130, hf⟩ := aBnE hf
                                  refine aCallV (b := 42) (As := [.int (xs (v3 + (1 : Int32)).toNatClampNeg)]) (rest := [.int w126.1]) hC hT rfl k_L_law_76.1 _ _ k_L_law_76.2 (by decide) (by rfl) (by rfl) (by rfl) (Nat.le_of_ble_eq_true rfl) (by decide) (J_X11_ofKind_42 C.2.2.1 C.1 N (xs (v3 + (1 : Int32)).toNatClampNeg) w126.2 ew130) ?_
                                  refine aCmp_eq hC hT (tgt := 940) rfl (by decide) (fun hc131 => ?_) (fun hc131 => ?_)
                                  · have hf := aIfT hf hc131
                                    exact L_law_1000_c0_b940_ok hC hSc hF hrec18 v3 w129.2 hf
                                  · have hf := aIfF hf hc131
                                    refine aRun_ok hC hT 1 (cf' := (555, [(0, .ref 1000), (1, .ref 0), (2, .ref 42), (3, .int v3)], [.int (0 : Int32)], LAY, w129.2)) (by rfl) ?_
                                    have e9 := Option.some.inj hf; subst e9
                                    exact absurd hF.1 (by decide)
                                · rcases aIfE hf with ⟨hc132, hf⟩ | ⟨-, hf⟩
                                  · refine aTsw hC hT (off := 524) (tgt := 556) rfl (14 : Int32) hc132 (by decide) (by decide) (by rfl) (by decide) ?_
                                    refine aRun_ok hC hT 5 (cf' := (561, [(0, .ref 1000), (1, .ref 0), (2, .ref 42), (3, .int v3)], [.int (v3 + (1 : Int32)), .ref 1000, .ref 0], LAY, S)) (by rfl) ?_
                                    obtain ⟨hin133, hf⟩ := aGdE hf
                                    refine aIaldX hC hT hSc rfl hin133 ?_
                                    obtain ⟨w134, ew135, hf⟩ := aBnE hf
                                    refine aCallV (b := 0) (As := [.int (xs (v3 + (1 : Int32)).toNatClampNeg)]) (rest := []) hC hT rfl k_L_law_77.1 _ _ k_L_law_77.2 (by decide) (by rfl) (by rfl) (by rfl) (Nat.le_of_ble_eq_true rfl) (by decide) (J_X10_two_0 C.2.2.1 C.1 N (xs (v3 + (1 : Int32)).toNatClampNeg) S ew135) ?_
                                    refine aRun_ok hC hT 5 (cf' := (570, [(0, .ref 1000), (1, .ref 0), (2, .ref 42), (3, .int v3)], [.int (v3 + (1 : Int32)), .ref 1000, .ref 42, .long w134.1], LAY, w134.2)) (by rfl) ?_
                                    obtain ⟨hin136, hf⟩ := aGdE hf
                                    refine aIaldX hC hT hSc rfl hin136 ?_
                                    obtain ⟨w137, ew138, hf⟩ := aBnE hf
                                    refine aCallV (b := 42) (As := [.int (xs (v3 + (1 : Int32)).toNatClampNeg)]) (rest := [.long w134.1]) hC hT rfl k_L_law_81.1 _ _ k_L_law_81.2 (by decide) (by rfl) (by rfl) (by rfl) (Nat.le_of_ble_eq_true rfl) (by decide) (J_X11_two_42 C.2.2.1 C.1 N (xs (v3 + (1 : Int32)).toNatClampNeg) w134.2 ew138) ?_
                                    refine aRun_ok hC hT 1 (cf' := (575, [(0, .ref 1000), (1, .ref 0), (2, .ref 42), (3, .int v3)], [.int (lg_cmp w134.1 w137.1)], LAY, w137.2)) (by rfl) ?_
                                    refine aIf_eq hC hT (tgt := 940) rfl (by decide) (fun hc139 => ?_) (fun hc139 => ?_)
                                    · have hf := aIfT hf hc139
                                      exact L_law_1000_c0_b940_ok hC hSc hF hrec18 v3 w137.2 hf
                                    · have hf := aIfF hf hc139
                                      refine aRun_ok hC hT 1 (cf' := (579, [(0, .ref 1000), (1, .ref 0), (2, .ref 42), (3, .int v3)], [.int (0 : Int32)], LAY, w137.2)) (by rfl) ?_
                                      have e9 := Option.some.inj hf; subst e9
                                      exact absurd hF.1 (by decide)
                                  · rcases aIfE hf with ⟨hc140, hf⟩ | ⟨-, hf⟩
                                    · refine aTsw hC hT (off := 548) (tgt := 580) rfl (15 : Int32) hc140 (by decide) (by decide) (by rfl) (by decide) ?_
                                      refine aRun_ok hC hT 5 (cf' := (585, [(0, .ref 1000), (1, .ref 0), (2, .ref 42), (3, .int v3)], [.int (v3 + (1 : Int32)), .ref 1000, .ref 0], LAY, S)) (by rfl) ?_
                                      obtain ⟨hin141, hf⟩ := aGdE hf
                                      refine aIaldX hC hT hSc rfl hin141 ?_
                                      obtain ⟨w142, ew143, hf⟩ := aBnE hf
                                      refine aCallV (b := 0) (As := [.int (xs (v3 + (1 : Int32)).toNatClampNeg)]) (rest := []) hC hT rfl k_L_law_82.1 _ _ k_L_law_82.2 (by decide) (by rfl) (by rfl) (by rfl) (Nat.le_of_ble_eq_true rfl) (by decide) (J_X10_hide_0 C.2.2.1 C.1 N (xs (v3 + (1 : Int32)).toNatClampNeg) S ew143) ?_
                                      refine aRun_ok hC hT 5 (cf' := (594, [(0, .ref 1000), (1, .ref 0), (2, .ref 42), (3, .int v3)], [.int (v3 + (1 : Int32)), .ref 1000, .ref 42, .long w142.1], LAY, w142.2)) (by rfl) ?_
                                      obtain ⟨hin144, hf⟩ := aGdE hf
                                      refine aIaldX hC hT hSc rfl hin144 ?_
                                      obtain ⟨w145, ew146, hf⟩ := aBnE hf
                                      refine aCallV (b := 42) (As := [.int (xs (v3 + (1 : Int32)).toNatClampNeg)]) (rest := [.long w142.1]) hC hT rfl k_L_law_85.1 _ _ k_L_law_85.2 (by decide) (by rfl) (by rfl) (by rfl) (Nat.le_of_ble_eq_true rfl) (by decide) (J_X11_hide_42 C.2.2.1 C.1 N (xs (v3 + (1 : Int32)).toNatClampNeg) w142.2 ew146) ?_
                                      refine aRun_ok hC hT 1 (cf' := (599, [(0, .ref 1000), (1, .ref 0), (2, .ref 42), (3, .int v3)], [.int (lg_cmp w142.1 w145.1)], LAY, w145.2)) (by rfl) ?_
                                      refine aIf_eq hC hT (tgt := 940) rfl (by decide) (fun hc147 => ?_) (fun hc147 => ?_)
                                      · have hf := aIfT hf hc147
                                        exact L_law_1000_c0_b940_ok hC hSc hF hrec18 v3 w145.2 hf
                                      · have hf := aIfF hf hc147
                                        refine aRun_ok hC hT 1 (cf' := (603, [(0, .ref 1000), (1, .ref 0), (2, .ref 42), (3, .int v3)], [.int (0 : Int32)], LAY, w145.2)) (by rfl) ?_
                                        have e9 := Option.some.inj hf; subst e9
                                        exact absurd hF.1 (by decide)
                                    · rcases aIfE hf with ⟨hc148, hf⟩ | ⟨-, hf⟩
                                      · refine aTsw hC hT (off := 572) (tgt := 604) rfl (16 : Int32) hc148 (by decide) (by decide) (by rfl) (by decide) ?_
                                        refine aRun_ok hC hT 5 (cf' := (609, [(0, .ref 1000), (1, .ref 0), (2, .ref 42), (3, .int v3)], [.int (v3 + (1 : Int32)), .ref 1000, .ref 0], LAY, S)) (by rfl) ?_
                                        obtain ⟨hin149, hf⟩ := aGdE hf
                                        refine aIaldX hC hT hSc rfl hin149 ?_
                                        refine aIf_eq hC hT (tgt := 617) rfl (by decide) (fun hc150 => ?_) (fun hc150 => ?_)
                                        · have hf := aIfT hf hc150
                                          refine aRun_ok hC hT 1 (cf' := (618, [(0, .ref 1000), (1, .ref 0), (2, .ref 42), (3, .int v3)], [.int (0 : Int32), .ref 0], LAY, S)) (by rfl) ?_
                                          exact L_law_1000_c0_b618_ok hC hSc hF hrec18 v3 (0 : Int32) S hf
                                        · have hf := aIfF hf hc150
                                          refine aRun_ok hC hT 2 (cf' := (618, [(0, .ref 1000), (1, .ref 0), (2, .ref 42), (3, .int v3)], [.int (1 : Int32), .ref 0], LAY, S)) (by rfl) ?_
                                          exact L_law_1000_c0_b618_ok hC hSc hF hrec18 v3 (1 : Int32) S hf
                                      · rcases aIfE hf with ⟨hc160, hf⟩ | ⟨-, hf⟩
                                        · refine aTsw hC hT (off := 621) (tgt := 653) rfl (17 : Int32) hc160 (by decide) (by decide) (by rfl) (by decide) ?_
                                          refine aRun_ok hC hT 5 (cf' := (658, [(0, .ref 1000), (1, .ref 0), (2, .ref 42), (3, .int v3)], [.int (v3 + (1 : Int32)), .ref 1000, .ref 0], LAY, S)) (by rfl) ?_
                                          obtain ⟨hin161, hf⟩ := aGdE hf
                                          refine aIaldX hC hT hSc rfl hin161 ?_
                                          refine aRun_ok hC hT 4 (cf' := (663, [(0, .ref 1000), (1, .ref 0), (2, .ref 42), (3, .int v3)], [.int (v3 + (2 : Int32)), .ref 1000, .int (xs (v3 + (1 : Int32)).toNatClampNeg), .ref 0], LAY, S)) (by rfl) ?_
                                          obtain ⟨hin162, hf⟩ := aGdE hf
                                          refine aIaldX hC hT hSc rfl hin162 ?_
                                          obtain ⟨w163, ew164, hf⟩ := aBnE hf
                                          refine aCallV (b := 0) (As := [.int (xs (v3 + (1 : Int32)).toNatClampNeg), .int (xs (v3 + (2 : Int32)).toNatClampNeg)]) (rest := []) hC hT rfl k_L_law_91.1 _ _ k_L_law_91.2 (by decide) (by rfl) (by rfl) (by rfl) (Nat.le_of_ble_eq_true rfl) (by decide) (J_X10_chance_0 C.2.2.1 C.1 N (xs (v3 + (1 : Int32)).toNatClampNeg) (xs (v3 + (2 : Int32)).toNatClampNeg) S ew164) ?_
                                          refine aRun_ok hC hT 5 (cf' := (672, [(0, .ref 1000), (1, .ref 0), (2, .ref 42), (3, .int v3)], [.int (v3 + (1 : Int32)), .ref 1000, .ref 42, .long w163.1], LAY, w163.2)) (by rfl) ?_
                                          obtain ⟨hin165, hf⟩ := aGdE hf
                                          refine aIaldX hC hT hSc rfl hin165 ?_
                                          refine aRun_ok hC hT 4 (cf' := (677, [(0, .ref 1000), (1, .ref 0), (2, .ref 42), (3, .int v3)], [.int (v3 + (2 : Int32)), .ref 1000, .int (xs (v3 + (1 : Int32)).toNatClampNeg), .ref 42, .long w163.1], LAY, w163.2)) (by rfl) ?_
                                          obtain ⟨hin166, hf⟩ := aGdE hf
                                          refine aIaldX hC hT hSc rfl hin166 ?_
                                          obtain ⟨w167, ew168, hf⟩ := aBnE hf
                                          refine aCallV (b := 42) (As := [.int (xs (v3 + (1 : Int32)).toNatClampNeg), .int (xs (v3 + (2 : Int32)).toNatClampNeg)]) (rest := [.long w163.1]) hC hT rfl k_L_law_95.1 _ _ k_L_law_95.2 (by decide) (by rfl) (by rfl) (by rfl) (Nat.le_of_ble_eq_true rfl) (by decide) (J_X11_chance_42 C.2.2.1 C.1 N (xs (v3 + (1 : Int32)).toNatClampNeg) (xs (v3 + (2 : Int32)).toNatClampNeg) w163.2 ew168) ?_
                                          refine aRun_ok hC hT 1 (cf' := (682, [(0, .ref 1000), (1, .ref 0), (2, .ref 42), (3, .int v3)], [.int (lg_cmp w163.1 w167.1)], LAY, w167.2)) (by rfl) ?_
                                          refine aIf_eq hC hT (tgt := 940) rfl (by decide) (fun hc169 => ?_) (fun hc169 => ?_)
                                          · have hf := aIfT hf hc169
                                            exact L_law_1000_c0_b940_ok hC hSc hF hrec18 v3 w167.2 hf
                                          · have hf := aIfF hf hc169
                                            refine aRun_ok hC hT 1 (cf' := (686, [(0, .ref 1000), (1, .ref 0), (2, .ref 42), (3, .int v3)], [.int (0 : Int32)], LAY, w167.2)) (by rfl) ?_
                                            have e9 := Option.some.inj hf; subst e9
                                            exact absurd hF.1 (by decide)
                                        · rcases aIfE hf with ⟨hc170, hf⟩ | ⟨-, hf⟩
                                          · refine aTsw hC hT (off := 655) (tgt := 687) rfl (18 : Int32) hc170 (by decide) (by decide) (by rfl) (by decide) ?_
                                            refine aRun_ok hC hT 5 (cf' := (692, [(0, .ref 1000), (1, .ref 0), (2, .ref 42), (3, .int v3)], [.int (v3 + (1 : Int32)), .ref 1000, .ref 0], LAY, S)) (by rfl) ?_
                                            obtain ⟨hin171, hf⟩ := aGdE hf
                                            refine aIaldX hC hT hSc rfl hin171 ?_
                                            refine aRun_ok hC hT 4 (cf' := (697, [(0, .ref 1000), (1, .ref 0), (2, .ref 42), (3, .int v3)], [.int (v3 + (2 : Int32)), .ref 1000, .int (xs (v3 + (1 : Int32)).toNatClampNeg), .ref 0], LAY, S)) (by rfl) ?_
                                            obtain ⟨hin172, hf⟩ := aGdE hf
                                            refine aIaldX hC hT hSc rfl hin172 ?_
                                            obtain ⟨w173, ew174, hf⟩ := aBnE hf
                                            refine aCallV (b := 0) (As := [.int (xs (v3 + (1 : Int32)).toNatClampNeg), .int (xs (v3 + (2 : Int32)).toNatClampNeg)]) (rest := []) hC hT rfl k_L_law_96.1 _ _ k_L_law_96.2 (by decide) (by rfl) (by rfl) (by rfl) (Nat.le_of_ble_eq_true rfl) (by decide) (J_X10_whose_0 C.2.2.1 C.1 N (xs (v3 + (1 : Int32)).toNatClampNeg) (xs (v3 + (2 : Int32)).toNatClampNeg) S ew174) ?_
                                            refine aRun_ok hC hT 5 (cf' := (706, [(0, .ref 1000), (1, .ref 0), (2, .ref 42), (3, .int v3)], [.int (v3 + (1 : Int32)), .ref 1000, .ref 42, .int w173.1], LAY, w173.2)) (by rfl) ?_
                                            obtain ⟨hin175, hf⟩ := aGdE hf
                                            refine aIaldX hC hT hSc rfl hin175 ?_
                                            refine aRun_ok hC hT 4 (cf' := (711, [(0, .ref 1000), (1, .ref 0), (2, .ref 42), (3, .int v3)], [.int (v3 + (2 : Int32)), .ref 1000, .int (xs (v3 + (1 : Int32)).toNatClampNeg), .ref 42, .int w173.1], LAY, w173.2)) (by rfl) ?_
                                            obtain ⟨hin176, hf⟩ := aGdE hf
                                            refine aIaldX hC hT hSc rfl hin176 ?_
                                            obtain ⟨w177, ew178, hf⟩ := aBnE hf
                                            refine aCallV (b := 42) (As := [.int (xs (v3 + (1 : Int32)).toNatClampNeg), .int (xs (v3 + (2 : Int32)).toNatClampNeg)]) (rest := [.int w173.1]) hC hT rfl k_L_law_99.1 _ _ k_L_law_99.2 (by decide) (by rfl) (by rfl) (by rfl) (Nat.le_of_ble_eq_true rfl) (by decide) (J_X11_whose_42 C.2.2.1 C.1 N (xs (v3 + (1 : Int32)).toNatClampNeg) (xs (v3 + (2 : Int32)).toNatClampNeg) w173.2 ew178) ?_
                                            refine aCmp_eq hC hT (tgt := 940) rfl (by decide) (fun hc179 => ?_) (fun hc179 => ?_)
                                            · have hf := aIfT hf hc179
                                              exact L_law_1000_c0_b940_ok hC hSc hF hrec18 v3 w177.2 hf
                                            · have hf := aIfF hf hc179
                                              refine aRun_ok hC hT 1 (cf' := (719, [(0, .ref 1000), (1, .ref 0), (2, .ref 42), (3, .int v3)], [.int (0 : Int32)], LAY, w177.2)) (by rfl) ?_
                                              have e9 := Option.some.inj hf; subst e9
                                              exact absurd hF.1 (by decide)
                                          · rcases aIfE hf with ⟨hc180, hf⟩ | ⟨-, hf⟩
                                            · refine aTsw hC hT (off := 688) (tgt := 720) rfl (19 : Int32) hc180 (by decide) (by decide) (by rfl) (by decide) ?_
                                              refine aRun_ok hC hT 5 (cf' := (725, [(0, .ref 1000), (1, .ref 0), (2, .ref 42), (3, .int v3)], [.int (v3 + (1 : Int32)), .ref 1000, .ref 0], LAY, S)) (by rfl) ?_
                                              obtain ⟨hin181, hf⟩ := aGdE hf
                                              refine aIaldX hC hT hSc rfl hin181 ?_
                                              refine aRun_ok hC hT 4 (cf' := (730, [(0, .ref 1000), (1, .ref 0), (2, .ref 42), (3, .int v3)], [.int (v3 + (2 : Int32)), .ref 1000, .int (xs (v3 + (1 : Int32)).toNatClampNeg), .ref 0], LAY, S)) (by rfl) ?_
                                              obtain ⟨hin182, hf⟩ := aGdE hf
                                              refine aIaldX hC hT hSc rfl hin182 ?_
                                              refine aIf_eq hC hT (tgt := 738) rfl (by decide) (fun hc183 => ?_) (fun hc183 => ?_)
                                              · have hf := aIfT hf hc183
                                                refine aRun_ok hC hT 1 (cf' := (739, [(0, .ref 1000), (1, .ref 0), (2, .ref 42), (3, .int v3)], [.int (0 : Int32), .int (xs (v3 + (1 : Int32)).toNatClampNeg), .ref 0], LAY, S)) (by rfl) ?_
                                                exact L_law_1000_c0_b739_ok hC hSc hF hrec18 v3 (0 : Int32) (xs (v3 + (1 : Int32)).toNatClampNeg) S hf
                                              · have hf := aIfF hf hc183
                                                refine aRun_ok hC hT 2 (cf' := (739, [(0, .ref 1000), (1, .ref 0), (2, .ref 42), (3, .int v3)], [.int (1 : Int32), .int (xs (v3 + (1 : Int32)).toNatClampNeg), .ref 0], LAY, S)) (by rfl) ?_
                                                exact L_law_1000_c0_b739_ok hC hSc hF hrec18 v3 (1 : Int32) (xs (v3 + (1 : Int32)).toNatClampNeg) S hf
                                            · rcases aIfE hf with ⟨hc192, hf⟩ | ⟨-, hf⟩
                                              · refine aTsw hC hT (off := 737) (tgt := 769) rfl (20 : Int32) hc192 (by decide) (by decide) (by rfl) (by decide) ?_
                                                refine aRun_ok hC hT 5 (cf' := (774, [(0, .ref 1000), (1, .ref 0), (2, .ref 42), (3, .int v3)], [.int (v3 + (1 : Int32)), .ref 1000, .ref 0], LAY, S)) (by rfl) ?_
                                                obtain ⟨hin193, hf⟩ := aGdE hf
                                                refine aIaldX hC hT hSc rfl hin193 ?_
                                                refine aIf_eq hC hT (tgt := 782) rfl (by decide) (fun hc194 => ?_) (fun hc194 => ?_)
                                                · have hf := aIfT hf hc194
                                                  refine aRun_ok hC hT 1 (cf' := (783, [(0, .ref 1000), (1, .ref 0), (2, .ref 42), (3, .int v3)], [.int (0 : Int32), .ref 0], LAY, S)) (by rfl) ?_
                                                  exact L_law_1000_c0_b783_ok hC hSc hF hrec18 v3 (0 : Int32) S hf
                                                · have hf := aIfF hf hc194
                                                  refine aRun_ok hC hT 2 (cf' := (783, [(0, .ref 1000), (1, .ref 0), (2, .ref 42), (3, .int v3)], [.int (1 : Int32), .ref 0], LAY, S)) (by rfl) ?_
                                                  exact L_law_1000_c0_b783_ok hC hSc hF hrec18 v3 (1 : Int32) S hf
                                              · rcases aIfE hf with ⟨hc204, hf⟩ | ⟨-, hf⟩
                                                · refine aTsw hC hT (off := 786) (tgt := 818) rfl (21 : Int32) hc204 (by decide) (by decide) (by rfl) (by decide) ?_
                                                  refine aRun_ok hC hT 5 (cf' := (823, [(0, .ref 1000), (1, .ref 0), (2, .ref 42), (3, .int v3)], [.int (v3 + (1 : Int32)), .ref 1000, .ref 0], LAY, S)) (by rfl) ?_
                                                  obtain ⟨hin205, hf⟩ := aGdE hf
                                                  refine aIaldX hC hT hSc rfl hin205 ?_
                                                  refine aRun_ok hC hT 4 (cf' := (828, [(0, .ref 1000), (1, .ref 0), (2, .ref 42), (3, .int v3)], [.int (v3 + (2 : Int32)), .ref 1000, .int (xs (v3 + (1 : Int32)).toNatClampNeg), .ref 0], LAY, S)) (by rfl) ?_
                                                  obtain ⟨hin206, hf⟩ := aGdE hf
                                                  refine aIaldX hC hT hSc rfl hin206 ?_
                                                  refine aRun_ok hC hT 4 (cf' := (833, [(0, .ref 1000), (1, .ref 0), (2, .ref 42), (3, .int v3)], [.int (v3 + (3 : Int32)), .ref 1000, .int (xs (v3 + (2 : Int32)).toNatClampNeg), .int (xs (v3 + (1 : Int32)).toNatClampNeg), .ref 0], LAY, S)) (by rfl) ?_
                                                  obtain ⟨hin207, hf⟩ := aGdE hf
                                                  refine aIaldX hC hT hSc rfl hin207 ?_
                                                  obtain ⟨w208, ew209, hf⟩ := aBnE hf
                                                  refine aCallV (b := 0) (As := [.int (xs (v3 + (1 : Int32)).toNatClampNeg), .int (xs (v3 + (2 : Int32)).toNatClampNeg), .int (xs (v3 + (3 : Int32)).toNatClampNeg)]) (rest := []) hC hT rfl k_L_law_109.1 _ _ k_L_law_109.2 (by decide) (by rfl) (by rfl) (by rfl) (Nat.le_of_ble_eq_true rfl) (by decide) (J_X10_judge_0 C.2.2.1 C.1 N (xs (v3 + (1 : Int32)).toNatClampNeg) (xs (v3 + (2 : Int32)).toNatClampNeg) (xs (v3 + (3 : Int32)).toNatClampNeg) S ew209) ?_
                                                  refine aRun_ok hC hT 5 (cf' := (842, [(0, .ref 1000), (1, .ref 0), (2, .ref 42), (3, .int v3)], [.int (v3 + (1 : Int32)), .ref 1000, .ref 42, .int w208], LAY, S)) (by rfl) ?_
                                                  obtain ⟨hin210, hf⟩ := aGdE hf
                                                  refine aIaldX hC hT hSc rfl hin210 ?_
                                                  refine aRun_ok hC hT 4 (cf' := (847, [(0, .ref 1000), (1, .ref 0), (2, .ref 42), (3, .int v3)], [.int (v3 + (2 : Int32)), .ref 1000, .int (xs (v3 + (1 : Int32)).toNatClampNeg), .ref 42, .int w208], LAY, S)) (by rfl) ?_
                                                  obtain ⟨hin211, hf⟩ := aGdE hf
                                                  refine aIaldX hC hT hSc rfl hin211 ?_
                                                  refine aRun_ok hC hT 4 (cf' := (852, [(0, .ref 1000), (1, .ref 0), (2, .ref 42), (3, .int v3)], [.int (v3 + (3 : Int32)), .ref 1000, .int (xs (v3 + (2 : Int32)).toNatClampNeg), .int (xs (v3 + (1 : Int32)).toNatClampNeg), .ref 42, .int w208], LAY, S)) (by rfl) ?_
                                                  obtain ⟨hin212, hf⟩ := aGdE hf
                                                  refine aIaldX hC hT hSc rfl hin212 ?_
                                                  obtain ⟨w213, ew214, hf⟩ := aBnE hf
                                                  refine aCallV (b := 42) (As := [.int (xs (v3 + (1 : Int32)).toNatClampNeg), .int (xs (v3 + (2 : Int32)).toNatClampNeg), .int (xs (v3 + (3 : Int32)).toNatClampNeg)]) (rest := [.int w208]) hC hT rfl k_L_law_112.1 _ _ k_L_law_112.2 (by decide) (by rfl) (by rfl) (by rfl) (Nat.le_of_ble_eq_true rfl) (by decide) (J_X11_judge_42 C.2.2.1 C.1 N (xs (v3 + (1 : Int32)).toNatClampNeg) (xs (v3 + (2 : Int32)).toNatClampNeg) (xs (v3 + (3 : Int32)).toNatClampNeg) S ew214) ?_
                                                  refine aCmp_eq hC hT (tgt := 940) rfl (by decide) (fun hc215 => ?_) (fun hc215 => ?_)
                                                  · have hf := aIfT hf hc215
                                                    exact L_law_1000_c0_b940_ok hC hSc hF hrec18 v3 S hf
                                                  · have hf := aIfF hf hc215
                                                    refine aRun_ok hC hT 1 (cf' := (860, [(0, .ref 1000), (1, .ref 0), (2, .ref 42), (3, .int v3)], [.int (0 : Int32)], LAY, S)) (by rfl) ?_
                                                    have e9 := Option.some.inj hf; subst e9
                                                    exact absurd hF.1 (by decide)
                                                · rcases aIfE hf with ⟨hc216, hf⟩ | ⟨-, hf⟩
                                                  · refine aTsw hC hT (off := 829) (tgt := 861) rfl (22 : Int32) hc216 (by decide) (by decide) (by rfl) (by decide) ?_
                                                    refine aRun_ok hC hT 5 (cf' := (866, [(0, .ref 1000), (1, .ref 0), (2, .ref 42), (3, .int v3)], [.int (v3 + (1 : Int32)), .ref 1000, .ref 0], LAY, S)) (by rfl) ?_
                                                    obtain ⟨hin217, hf⟩ := aGdE hf
                                                    refine aIaldX hC hT hSc rfl hin217 ?_
                                                    obtain ⟨w218, ew219, hf⟩ := aLetE hf
                                                    refine aCallV (b := 0) (As := [.int (xs (v3 + (1 : Int32)).toNatClampNeg)]) (rest := []) hC hT rfl k_L_law_113.1 _ _ k_L_law_113.2 (by decide) (by rfl) (by rfl) (by rfl) (Nat.le_of_ble_eq_true rfl) (by decide) (J_X10_other_0 C.2.2.1 C.1 (xs (v3 + (1 : Int32)).toNatClampNeg) S ew219) ?_
                                                    refine aRun_ok hC hT 5 (cf' := (875, [(0, .ref 1000), (1, .ref 0), (2, .ref 42), (3, .int v3)], [.int (v3 + (1 : Int32)), .ref 1000, .ref 42, .int w218.1], LAY, w218.2)) (by rfl) ?_
                                                    obtain ⟨hin220, hf⟩ := aGdE hf
                                                    refine aIaldX hC hT hSc rfl hin220 ?_
                                                    obtain ⟨w221, ew222, hf⟩ := aBnE hf
                                                    refine aCallV (b := 42) (As := [.int (xs (v3 + (1 : Int32)).toNatClampNeg)]) (rest := [.int w218.1]) hC hT rfl k_L_law_116.1 _ _ k_L_law_116.2 (by decide) (by rfl) (by rfl) (by rfl) (Nat.le_of_ble_eq_true rfl) (by decide) (J_X11_other_42 C.2.2.1 C.1 N (xs (v3 + (1 : Int32)).toNatClampNeg) w218.2 ew222) ?_
                                                    refine aCmp_eq hC hT (tgt := 940) rfl (by decide) (fun hc223 => ?_) (fun hc223 => ?_)
                                                    · have hf := aIfT hf hc223
                                                      exact L_law_1000_c0_b940_ok hC hSc hF hrec18 v3 w221.2 hf
                                                    · have hf := aIfF hf hc223
                                                      refine aRun_ok hC hT 1 (cf' := (883, [(0, .ref 1000), (1, .ref 0), (2, .ref 42), (3, .int v3)], [.int (0 : Int32)], LAY, w221.2)) (by rfl) ?_
                                                      have e9 := Option.some.inj hf; subst e9
                                                      exact absurd hF.1 (by decide)
                                                  · rcases aIfE hf with ⟨hc224, hf⟩ | ⟨-, hf⟩
                                                    · refine aTsw hC hT (off := 852) (tgt := 884) rfl (23 : Int32) hc224 (by decide) (by decide) (by rfl) (by decide) ?_
                                                      refine aRun_ok hC hT 5 (cf' := (889, [(0, .ref 1000), (1, .ref 0), (2, .ref 42), (3, .int v3)], [.int (v3 + (1 : Int32)), .ref 1000, .ref 0], LAY, S)) (by rfl) ?_
                                                      obtain ⟨hin225, hf⟩ := aGdE hf
                                                      refine aIaldX hC hT hSc rfl hin225 ?_
                                                      refine aRun_ok hC hT 4 (cf' := (894, [(0, .ref 1000), (1, .ref 0), (2, .ref 42), (3, .int v3)], [.int (v3 + (2 : Int32)), .ref 1000, .int (xs (v3 + (1 : Int32)).toNatClampNeg), .ref 0], LAY, S)) (by rfl) ?_
                                                      obtain ⟨hin226, hf⟩ := aGdE hf
                                                      refine aIaldX hC hT hSc rfl hin226 ?_
                                                      obtain ⟨w227, ew228, hf⟩ := aBnE hf
                                                      refine aCallV (b := 0) (As := [.int (xs (v3 + (1 : Int32)).toNatClampNeg), .int (xs (v3 + (2 : Int32)).toNatClampNeg)]) (rest := []) hC hT rfl k_L_law_117.1 _ _ k_L_law_117.2 (by decide) (by rfl) (by rfl) (by rfl) (Nat.le_of_ble_eq_true rfl) (by decide) (J_X10_match_0 C.2.2.1 C.1 N (xs (v3 + (1 : Int32)).toNatClampNeg) (xs (v3 + (2 : Int32)).toNatClampNeg) S ew228) ?_
                                                      refine aRun_ok hC hT 5 (cf' := (903, [(0, .ref 1000), (1, .ref 0), (2, .ref 42), (3, .int v3)], [.int (v3 + (1 : Int32)), .ref 1000, .ref 42, .int w227.1], LAY, w227.2)) (by rfl) ?_
                                                      obtain ⟨hin229, hf⟩ := aGdE hf
                                                      refine aIaldX hC hT hSc rfl hin229 ?_
                                                      refine aRun_ok hC hT 4 (cf' := (908, [(0, .ref 1000), (1, .ref 0), (2, .ref 42), (3, .int v3)], [.int (v3 + (2 : Int32)), .ref 1000, .int (xs (v3 + (1 : Int32)).toNatClampNeg), .ref 42, .int w227.1], LAY, w227.2)) (by rfl) ?_
                                                      obtain ⟨hin230, hf⟩ := aGdE hf
                                                      refine aIaldX hC hT hSc rfl hin230 ?_
                                                      obtain ⟨w231, ew232, hf⟩ := aBnE hf
                                                      refine aCallV (b := 42) (As := [.int (xs (v3 + (1 : Int32)).toNatClampNeg), .int (xs (v3 + (2 : Int32)).toNatClampNeg)]) (rest := [.int w227.1]) hC hT rfl k_L_law_120.1 _ _ k_L_law_120.2 (by decide) (by rfl) (by rfl) (by rfl) (Nat.le_of_ble_eq_true rfl) (by decide) (J_X11_match_42 C.2.2.1 C.1 N (xs (v3 + (1 : Int32)).toNatClampNeg) (xs (v3 + (2 : Int32)).toNatClampNeg) w227.2 ew232) ?_
                                                      refine aCmp_eq hC hT (tgt := 940) rfl (by decide) (fun hc233 => ?_) (fun hc233 => ?_)
                                                      · have hf := aIfT hf hc233
                                                        exact L_law_1000_c0_b940_ok hC hSc hF hrec18 v3 w231.2 hf
                                                      · have hf := aIfF hf hc233
                                                        refine aRun_ok hC hT 1 (cf' := (916, [(0, .ref 1000), (1, .ref 0), (2, .ref 42), (3, .int v3)], [.int (0 : Int32)], LAY, w231.2)) (by rfl) ?_
                                                        have e9 := Option.some.inj hf; subst e9
                                                        exact absurd hF.1 (by decide)
                                                    · rcases aIfE hf with ⟨hc234, hf⟩ | ⟨-, hf⟩
                                                      · refine aTsw hC hT (off := 885) (tgt := 917) rfl (24 : Int32) hc234 (by decide) (by decide) (by rfl) (by decide) ?_
                                                        refine aRun_ok hC hT 5 (cf' := (922, [(0, .ref 1000), (1, .ref 0), (2, .ref 42), (3, .int v3)], [.int (v3 + (1 : Int32)), .ref 1000, .ref 0], LAY, S)) (by rfl) ?_
                                                        obtain ⟨hin235, hf⟩ := aGdE hf
                                                        refine aIaldX hC hT hSc rfl hin235 ?_
                                                        obtain ⟨w236, ew237, hf⟩ := aBnE hf
                                                        refine aCallV (b := 0) (As := [.int (xs (v3 + (1 : Int32)).toNatClampNeg)]) (rest := []) hC hT rfl k_L_law_121.1 _ _ k_L_law_121.2 (by decide) (by rfl) (by rfl) (by rfl) (Nat.le_of_ble_eq_true rfl) (by decide) (J_X10_count_0 C.2.2.1 C.1 N (xs (v3 + (1 : Int32)).toNatClampNeg) S ew237) ?_
                                                        refine aRun_ok hC hT 5 (cf' := (931, [(0, .ref 1000), (1, .ref 0), (2, .ref 42), (3, .int v3)], [.int (v3 + (1 : Int32)), .ref 1000, .ref 42, .int w236], LAY, S)) (by rfl) ?_
                                                        obtain ⟨hin238, hf⟩ := aGdE hf
                                                        refine aIaldX hC hT hSc rfl hin238 ?_
                                                        obtain ⟨w239, ew240, hf⟩ := aBnE hf
                                                        refine aCallV (b := 42) (As := [.int (xs (v3 + (1 : Int32)).toNatClampNeg)]) (rest := [.int w236]) hC hT rfl k_L_law_124.1 _ _ k_L_law_124.2 (by decide) (by rfl) (by rfl) (by rfl) (Nat.le_of_ble_eq_true rfl) (by decide) (J_X11_count_42 C.2.2.1 C.1 N (xs (v3 + (1 : Int32)).toNatClampNeg) S ew240) ?_
                                                        refine aCmp_eq hC hT (tgt := 940) rfl (by decide) (fun hc241 => ?_) (fun hc241 => ?_)
                                                        · have hf := aIfT hf hc241
                                                          exact L_law_1000_c0_b940_ok hC hSc hF hrec18 v3 S hf
                                                        · have hf := aIfF hf hc241
                                                          refine aRun_ok hC hT 1 (cf' := (939, [(0, .ref 1000), (1, .ref 0), (2, .ref 42), (3, .int v3)], [.int (0 : Int32)], LAY, S)) (by rfl) ?_
                                                          have e9 := Option.some.inj hf; subst e9
                                                          exact absurd hF.1 (by decide)
                                                      · cases hf
def L_law_1000_c0_l18 (N : Nat) (L : Nat) (xs : Nat → Int32) : Nat → Int32 → aSt → Option (Int32)
  | 0 => fun _ _ => none
  | n + 1 => L_law_1000_c0_b18 N L xs (L_law_1000_c0_l18 N L xs n)
theorem L_law_1000_c0_l18_ok {C : aC} {N : Nat} {L : Nat} {xs : Nat → Int32} (hC : aCx C M_L_law) (hSc : aSc C L xs) {r : Int32} (hF : r = 1 ∧ ∀ (pc : Nat) (lv : List (Nat × Value)) (S : aSt), aLk M_L_law.2.2.2.2.2.2.1 pc = some (.ireturn, 1) → aX C M_L_law 59 27715 (pc, lv, [.int 1], LAY, S)) : ∀ (n : Nat) (v3 : Int32) (S : aSt), L_law_1000_c0_l18 N L xs n v3 S = (some r) → aX C M_L_law 59 27715 (18, [(0, .ref 1000), (1, .ref 0), (2, .ref 42), (3, .int v3)], [], LAY, S)
  | 0, _, _,  h => nomatch (show (none : Option (Int32)) = some _ from h)
  | n + 1, v3, S,  h => L_law_1000_c0_b18_ok hC hSc hF (fun v3 S h => L_law_1000_c0_l18_ok hC hSc hF n v3 S h) v3 S h
def L_law (N : Nat) (L : Nat) (xs : Nat → Int32) (S : aSt) : Option (Int32) := (Option.bind (X10_init_0_c1 N (aClr S 0)) (fun w1 => (Option.bind (X11_init_42_c43 N (aClr w1 42)) (fun w3 => (L_law_1000_c0_l18 N L xs N (0 : Int32) w3)))))
set_option maxHeartbeats 4000000 in
set_option maxRecDepth 100000 in
theorem law_ok {C : aC} {N : Nat} {L : Nat} {xs : Nat → Int32} (hC : aCx C M_L_law) (hSc : aSc C L xs) {r : Int32} (hF : r = 1 ∧ ∀ (pc : Nat) (lv : List (Nat × Value)) (S : aSt), aLk M_L_law.2.2.2.2.2.2.1 pc = some (.ireturn, 1) → aX C M_L_law 59 27715 (pc, lv, [.int 1], LAY, S)) (S : aSt) (hf : L_law N L xs S = some r) : aX C M_L_law 0 0 (0, [(0, .ref 1000)], [], Ly118, S) := by
  have hT := ok_L_law
  unfold L_law at hf
  refine aNew (ci := 7) hC hT rfl rfl (p1 := 82) (p2 := 83) (p3 := 64) (by decide +kernel) (by decide +kernel) (by decide +kernel) (by decide +kernel) (by decide) (len := 0) rfl (by decide) (kinds := [(0, 0), (0, 0), (0, 0), (0, 0), (0, 0), (0, 0), (0, 0), (0, 0), (0, 0), (0, 0), (1, 0)]) (by decide +kernel) (lay' := Ly0) rfl ?_
  refine aRun_ok hC hT 1 (cf' := (4, [(0, .ref 1000)], [.ref 0, .ref 0], Ly0, (aClr S 0))) (by rfl) ?_
  obtain ⟨w1, ew2, hf⟩ := aBnE hf
  refine aCallI (b := 0) (As := []) (rest := [.ref 0]) hC hT rfl k_L_law_9.1 _ k_L_law_9.2 (by rfl) (by rfl) (by decide) (by rfl) (Nat.le_of_ble_eq_true rfl) (by decide) (J_X10_init_0_c1 C.2.2.1 C.1 N  (aClr S 0) ew2) ?_
  refine aRun_ok hC hT 1 (cf' := (8, [(1, .ref 0), (0, .ref 1000)], [], Ly84, w1)) (by rfl) ?_
  refine aNew (ci := 8) hC hT rfl rfl (p1 := 951) (p2 := 952) (p3 := 73) (by decide +kernel) (by decide +kernel) (by decide +kernel) (by decide +kernel) (by decide) (len := 42) rfl (by decide) (kinds := [(0, 0), (1, 0), (0, 0), (1, 0), (0, 0), (1, 0), (0, 0), (1, 0), (0, 0), (0, 0), (1, 0), (1, 0), (1, 0), (0, 0), (1, 0), (1, 0), (1, 0), (1, 0), (0, 0), (0, 0), (0, 0), (0, 0), (0, 0), (1, 0), (0, 0), (1, 0), (2, 0), (2, 0), (1, 0), (1, 0), (0, 0), (0, 0), (1, 0), (0, 0)]) (by decide +kernel) (lay' := Ly85) rfl ?_
  refine aRun_ok hC hT 1 (cf' := (12, [(1, .ref 0), (0, .ref 1000)], [.ref 42, .ref 42], Ly85, (aClr w1 42))) (by rfl) ?_
  obtain ⟨w3, ew4, hf⟩ := aBnE hf
  refine aCallI (b := 42) (As := []) (rest := [.ref 42]) hC hT rfl k_L_law_12.1 _ k_L_law_12.2 (by rfl) (by rfl) (by decide) (by rfl) (Nat.le_of_ble_eq_true rfl) (by decide) (J_X11_init_42_c43 C.2.2.1 C.1 N  (aClr w1 42) ew4) ?_
  refine aRun_ok hC hT 0 (cf' := (15, [(1, .ref 0), (0, .ref 1000)], [.ref 42], LAY, w3)) (by rfl) ?_
  refine aRun_ok hC hT 3 (cf' := (18, [(3, .int (0 : Int32)), (2, .ref 42), (1, .ref 0), (0, .ref 1000)], [], LAY, w3)) (by rfl) ?_
  refine aLocs [3, 2, 1, 0] (lv' := [(0, .ref 1000), (1, .ref 0), (2, .ref 42), (3, .int (0 : Int32))]) rfl ?_
  exact L_law_1000_c0_l18_ok hC hSc hF N (0 : Int32) w3 hf
