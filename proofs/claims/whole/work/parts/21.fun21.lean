def X11_book_42_b34 (N : Nat) (S : aSt) : Option (Int32 × aSt) := some (((S.1 42 3), (aI S 42 1 (0 : Int32))))
set_option maxHeartbeats 4000000 in
set_option maxRecDepth 100000 in
theorem X11_book_42_b34_ok {C : aC} {N : Nat} (hC : aCx C M_X11_book) {r : Int32 × aSt} (hF : aFin C (some (.int r.1)) LAY r.2 0 0) (S : aSt) (hf : X11_book_42_b34 N S = (some r)) : aX C M_X11_book 0 0 (34, [(0, .ref 42)], [], LAY, S) := by
  have hT := ok_X11_book
  unfold X11_book_42_b34 at hf
  refine aRun_ok hC hT 5 (cf' := (43, [(0, .ref 42)], [.int (S.1 42 3)], LAY, (aI S 42 1 (0 : Int32)))) (by rfl) ?_
  have e9 := Option.some.inj hf; subst e9
  exact aRetI hC hT hF rfl rfl
def X11_book_42_b13 (N : Nat) (rec13 : Int32 → aSt → Option (Int32 × aSt)) (v1 : Int32) (S : aSt) : Option (Int32 × aSt) := (if (S.1 42 3) ≤ v1 then (X11_book_42_b34 N S) else (Option.bind (X11_lay_42 N ((5 : Int32) * v1) S) (fun w5 => (rec13 (v1 + (1 : Int32)) w5))))
set_option maxHeartbeats 4000000 in
set_option maxRecDepth 100000 in
theorem X11_book_42_b13_ok {C : aC} {N : Nat} {rec13 : Int32 → aSt → Option (Int32 × aSt)} (hC : aCx C M_X11_book) {r : Int32 × aSt} (hF : aFin C (some (.int r.1)) LAY r.2 0 0) (hrec13 : ∀ (v1 : Int32) (S : aSt), rec13 v1 S = (some r) → aX C M_X11_book 0 0 (13, [(0, .ref 42), (1, .int v1)], [], LAY, S)) (v1 : Int32) (S : aSt) (hf : X11_book_42_b13 N rec13 v1 S = (some r)) : aX C M_X11_book 0 0 (13, [(0, .ref 42), (1, .int v1)], [], LAY, S) := by
  have hT := ok_X11_book
  unfold X11_book_42_b13 at hf
  refine aRun_ok hC hT 3 (cf' := (18, [(0, .ref 42), (1, .int v1)], [.int (S.1 42 3), .int v1], LAY, S)) (by rfl) ?_
  refine aCmp_ge hC hT (tgt := 34) rfl (by decide) (fun hc4 => ?_) (fun hc4 => ?_)
  · have hf := aIfT hf hc4
    refine aLocs [0] (lv' := [(0, .ref 42)]) rfl ?_
    exact X11_book_42_b34_ok hC hF S hf
  · have hf := aIfF hf hc4
    refine aRun_ok hC hT 4 (cf' := (25, [(0, .ref 42), (1, .int v1)], [.int ((5 : Int32) * v1), .ref 42], LAY, S)) (by rfl) ?_
    obtain ⟨w5, ew6, hf⟩ := aBnE hf
    refine aCallV (b := 42) (As := [.int ((5 : Int32) * v1)]) (rest := []) hC hT rfl k_X11_book_142.1 _ _ k_X11_book_142.2 (by decide) (by rfl) (by rfl) (by rfl) (Nat.le_of_ble_eq_true rfl) (by decide) (J_X11_lay_42 C.2.2.1 C.1 N ((5 : Int32) * v1) S ew6) ?_
    refine aRun_ok hC hT 2 (cf' := (13, [(1, .int (v1 + (1 : Int32))), (0, .ref 42)], [], LAY, w5)) (by rfl) ?_
    refine aLocs [1, 0] (lv' := [(0, .ref 42), (1, .int (v1 + (1 : Int32)))]) rfl ?_
    exact hrec13 (v1 + (1 : Int32)) w5 hf
def X11_book_42_l13 (N : Nat) : Nat → Int32 → aSt → Option (Int32 × aSt)
  | 0 => fun _ _ => none
  | n + 1 => X11_book_42_b13 N (X11_book_42_l13 N n)
theorem X11_book_42_l13_ok {C : aC} {N : Nat} (hC : aCx C M_X11_book) {r : Int32 × aSt} (hF : aFin C (some (.int r.1)) LAY r.2 0 0) : ∀ (n : Nat) (v1 : Int32) (S : aSt), X11_book_42_l13 N n v1 S = (some r) → aX C M_X11_book 0 0 (13, [(0, .ref 42), (1, .int v1)], [], LAY, S)
  | 0, _, _,  h => nomatch (show (none : Option (Int32 × aSt)) = some _ from h)
  | n + 1, v1, S,  h => X11_book_42_b13_ok hC hF (fun v1 S h => X11_book_42_l13_ok hC hF n v1 S h) v1 S h
def X11_book_42 (N : Nat) (S : aSt) : Option (Int32 × aSt) := (Option.bind (X11_fault_42 N S) (fun w1 => (if w1.1 = ((-1) : Int32) then (X11_book_42_l13 N N (0 : Int32) w1.2) else some ((((-4) : Int32), w1.2)))))
set_option maxHeartbeats 4000000 in
set_option maxRecDepth 100000 in
theorem J_X11_book_42 (l : Launch) (g : aWg) (N : Nat) (S : aSt) {r : Int32 × aSt} (hf : X11_book_42 N S = (some r)) : aJ l g yX11_book M_X11_book [.ref 42] LAY S (some (.int r.1)) LAY r.2 0 0 := by
  refine aJ_of (by decide +kernel) rfl (Nat.le_of_ble_eq_true rfl) (fun h => nomatch h) ?_
  intro C hg hl hC hz hF
  subst hg; subst hl
  have hT := ok_X11_book
  unfold X11_book_42 at hf
  show aX C M_X11_book 0 0 (0, [(0, .ref 42)], [], LAY, S)
  refine aRun_ok hC hT 1 (cf' := (1, [(0, .ref 42)], [.ref 42], LAY, S)) (by rfl) ?_
  obtain ⟨w1, ew2, hf⟩ := aBnE hf
  refine aCallV (b := 42) (As := []) (rest := []) hC hT rfl k_X11_book_139.1 _ _ k_X11_book_139.2 (by decide) (by rfl) (by rfl) (by rfl) (Nat.le_of_ble_eq_true rfl) (by decide) (J_X11_fault_42 C.2.2.1 C.1 N  S ew2) ?_
  refine aRun_ok hC hT 1 (cf' := (5, [(0, .ref 42)], [.int ((-1) : Int32), .int w1.1], LAY, w1.2)) (by rfl) ?_
  refine aCmp_eq hC hT (tgt := 11) rfl (by decide) (fun hc3 => ?_) (fun hc3 => ?_)
  · have hf := aIfT hf hc3
    refine aRun_ok hC hT 2 (cf' := (13, [(1, .int (0 : Int32)), (0, .ref 42)], [], LAY, w1.2)) (by rfl) ?_
    refine aLocs [1, 0] (lv' := [(0, .ref 42), (1, .int (0 : Int32))]) rfl ?_
    exact X11_book_42_l13_ok hC hF N (0 : Int32) w1.2 hf
  · have hf := aIfF hf hc3
    refine aRun_ok hC hT 1 (cf' := (10, [(0, .ref 42)], [.int ((-4) : Int32)], LAY, w1.2)) (by rfl) ?_
    have e9 := Option.some.inj hf; subst e9
    exact aRetI hC hT hF rfl rfl
def X11_outOf_42_b83 (N : Nat) (S : aSt) (rec4 : Int32 → Int32 → Int32 → Option (Int32)) (v1 : Int32) (v3 : Int32) (s0 : Int32) (s1 : Int32) : Option (Int32) := (rec4 v1 (s1 + s0) (v3 + (1 : Int32)))
set_option maxHeartbeats 4000000 in
set_option maxRecDepth 100000 in
theorem X11_outOf_42_b83_ok {C : aC} {N : Nat} {S : aSt} {rec4 : Int32 → Int32 → Int32 → Option (Int32)} (hC : aCx C M_X11_outOf) {r : Int32} (hF : aFin C (some (.int r)) LAY S 0 0) (hrec4 : ∀ (v1 : Int32) (v2 : Int32) (v3 : Int32), rec4 v1 v2 v3 = (some r) → aX C M_X11_outOf 0 0 (4, [(0, .ref 42), (1, .int v1), (2, .int v2), (3, .int v3)], [], LAY, S)) (v1 : Int32) (v3 : Int32) (s0 : Int32) (s1 : Int32) (hf : X11_outOf_42_b83 N S rec4 v1 v3 s0 s1 = (some r)) : aX C M_X11_outOf 0 0 (83, [(0, .ref 42), (1, .int v1), (3, .int v3)], [.int s0, .int s1], LAY, S) := by
  have hT := ok_X11_outOf
  unfold X11_outOf_42_b83 at hf
  refine aRun_ok hC hT 4 (cf' := (4, [(3, .int (v3 + (1 : Int32))), (2, .int (s1 + s0)), (0, .ref 42), (1, .int v1)], [], LAY, S)) (by rfl) ?_
  refine aLocs [2, 3, 1, 0] (lv' := [(0, .ref 42), (1, .int v1), (2, .int (s1 + s0)), (3, .int (v3 + (1 : Int32)))]) rfl ?_
  exact hrec4 v1 (s1 + s0) (v3 + (1 : Int32)) hf
def X11_outOf_42_b36 (N : Nat) (S : aSt) (rec4 : Int32 → Int32 → Int32 → Option (Int32)) (v1 : Int32) (v2 : Int32) (v3 : Int32) (s0 : Int32) : Option (Int32) := (if s0 = (0 : Int32) then (X11_outOf_42_b83 N S rec4 v1 v3 (0 : Int32) v2) else (if aIx ((5 : Int32) * v3) 150 = true then (if ((S.2.2 45) ((5 : Int32) * v3).toNatClampNeg) = (0 : Int32) then (if aIx (((5 : Int32) * v3) + (1 : Int32)) 150 = true then (X11_outOf_42_b83 N S rec4 v1 v3 ((S.2.2 45) (((5 : Int32) * v3) + (1 : Int32)).toNatClampNeg) v2) else none) else (if aIx (((5 : Int32) * v3) + (1 : Int32)) 150 = true then (X11_outOf_42_b83 N S rec4 v1 v3 (-((S.2.2 45) (((5 : Int32) * v3) + (1 : Int32)).toNatClampNeg)) v2) else none)) else none))
set_option maxHeartbeats 4000000 in
set_option maxRecDepth 100000 in
theorem X11_outOf_42_b36_ok {C : aC} {N : Nat} {S : aSt} {rec4 : Int32 → Int32 → Int32 → Option (Int32)} (hC : aCx C M_X11_outOf) {r : Int32} (hF : aFin C (some (.int r)) LAY S 0 0) (hrec4 : ∀ (v1 : Int32) (v2 : Int32) (v3 : Int32), rec4 v1 v2 v3 = (some r) → aX C M_X11_outOf 0 0 (4, [(0, .ref 42), (1, .int v1), (2, .int v2), (3, .int v3)], [], LAY, S)) (v1 : Int32) (v2 : Int32) (v3 : Int32) (s0 : Int32) (hf : X11_outOf_42_b36 N S rec4 v1 v2 v3 s0 = (some r)) : aX C M_X11_outOf 0 0 (36, [(0, .ref 42), (1, .int v1), (2, .int v2), (3, .int v3)], [.int s0], LAY, S) := by
  have hT := ok_X11_outOf
  unfold X11_outOf_42_b36 at hf
  refine aRun_ok hC hT 3 (cf' := (41, [(4, .int s0), (0, .ref 42), (1, .int v1), (2, .int v2), (3, .int v3)], [.int s0, .int v2], LAY, S)) (by rfl) ?_
  refine aIf_ne hC hT (tgt := 48) rfl (by decide) (fun hc3 => ?_) (fun hc3 => ?_)
  · have hf := aIfF hf hc3
    refine aRun_ok hC hT 5 (cf' := (55, [(4, .int s0), (0, .ref 42), (1, .int v1), (2, .int v2), (3, .int v3)], [.int ((5 : Int32) * v3), .ref 45, .int v2], LAY, S)) (by rfl) ?_
    obtain ⟨hin4, hf⟩ := aGdE hf
    refine aIald hC hT rfl (by decide) (by rfl) hin4 ?_
    refine aIf_ne hC hT (tgt := 72) rfl (by decide) (fun hc5 => ?_) (fun hc5 => ?_)
    · have hf := aIfF hf hc5
      refine aRun_ok hC hT 7 (cf' := (81, [(4, .int s0), (0, .ref 42), (1, .int v1), (2, .int v2), (3, .int v3)], [.int (((5 : Int32) * v3) + (1 : Int32)), .ref 45, .int v2], LAY, S)) (by rfl) ?_
      obtain ⟨hin6, hf⟩ := aGdE hf
      refine aIald hC hT rfl (by decide) (by rfl) hin6 ?_
      refine aRun_ok hC hT 1 (cf' := (83, [(4, .int s0), (0, .ref 42), (1, .int v1), (2, .int v2), (3, .int v3)], [.int (-((S.2.2 45) (((5 : Int32) * v3) + (1 : Int32)).toNatClampNeg)), .int v2], LAY, S)) (by rfl) ?_
      refine aLocs [1, 2, 4] (lv' := [(0, .ref 42), (1, .int v1), (3, .int v3)]) rfl ?_
      exact X11_outOf_42_b83_ok hC hF hrec4 v1 v3 (-((S.2.2 45) (((5 : Int32) * v3) + (1 : Int32)).toNatClampNeg)) v2 hf
    · have hf := aIfT hf hc5
      refine aRun_ok hC hT 7 (cf' := (68, [(4, .int s0), (0, .ref 42), (1, .int v1), (2, .int v2), (3, .int v3)], [.int (((5 : Int32) * v3) + (1 : Int32)), .ref 45, .int v2], LAY, S)) (by rfl) ?_
      obtain ⟨hin7, hf⟩ := aGdE hf
      refine aIald hC hT rfl (by decide) (by rfl) hin7 ?_
      refine aRun_ok hC hT 1 (cf' := (83, [(4, .int s0), (0, .ref 42), (1, .int v1), (2, .int v2), (3, .int v3)], [.int ((S.2.2 45) (((5 : Int32) * v3) + (1 : Int32)).toNatClampNeg), .int v2], LAY, S)) (by rfl) ?_
      refine aLocs [1, 2, 4] (lv' := [(0, .ref 42), (1, .int v1), (3, .int v3)]) rfl ?_
      exact X11_outOf_42_b83_ok hC hF hrec4 v1 v3 ((S.2.2 45) (((5 : Int32) * v3) + (1 : Int32)).toNatClampNeg) v2 hf
  · have hf := aIfT hf hc3
    refine aRun_ok hC hT 2 (cf' := (83, [(4, .int s0), (0, .ref 42), (1, .int v1), (2, .int v2), (3, .int v3)], [.int (0 : Int32), .int v2], LAY, S)) (by rfl) ?_
    refine aLocs [1, 2, 4] (lv' := [(0, .ref 42), (1, .int v1), (3, .int v3)]) rfl ?_
    exact X11_outOf_42_b83_ok hC hF hrec4 v1 v3 (0 : Int32) v2 hf
def X11_outOf_42_b31 (N : Nat) (S : aSt) (rec4 : Int32 → Int32 → Int32 → Option (Int32)) (v1 : Int32) (v2 : Int32) (v3 : Int32) : Option (Int32) := (X11_outOf_42_b36 N S rec4 v1 v2 v3 (1 : Int32))
set_option maxHeartbeats 4000000 in
set_option maxRecDepth 100000 in
theorem X11_outOf_42_b31_ok {C : aC} {N : Nat} {S : aSt} {rec4 : Int32 → Int32 → Int32 → Option (Int32)} (hC : aCx C M_X11_outOf) {r : Int32} (hF : aFin C (some (.int r)) LAY S 0 0) (hrec4 : ∀ (v1 : Int32) (v2 : Int32) (v3 : Int32), rec4 v1 v2 v3 = (some r) → aX C M_X11_outOf 0 0 (4, [(0, .ref 42), (1, .int v1), (2, .int v2), (3, .int v3)], [], LAY, S)) (v1 : Int32) (v2 : Int32) (v3 : Int32) (hf : X11_outOf_42_b31 N S rec4 v1 v2 v3 = (some r)) : aX C M_X11_outOf 0 0 (31, [(0, .ref 42), (1, .int v1), (2, .int v2), (3, .int v3)], [], LAY, S) := by
  have hT := ok_X11_outOf
  unfold X11_outOf_42_b31 at hf
  refine aRun_ok hC hT 2 (cf' := (36, [(0, .ref 42), (1, .int v1), (2, .int v2), (3, .int v3)], [.int (1 : Int32)], LAY, S)) (by rfl) ?_
  exact X11_outOf_42_b36_ok hC hF hrec4 v1 v2 v3 (1 : Int32) hf
def X11_outOf_42_b4 (N : Nat) (S : aSt) (rec4 : Int32 → Int32 → Int32 → Option (Int32)) (v1 : Int32) (v2 : Int32) (v3 : Int32) : Option (Int32) := (if (S.1 42 5) ≤ v3 then some (v2) else (if v1 = ((-1) : Int32) then (X11_outOf_42_b31 N S rec4 v1 v2 v3) else (if aIx (((5 : Int32) * v3) + (4 : Int32)) 150 = true then (if ((S.2.2 45) (((5 : Int32) * v3) + (4 : Int32)).toNatClampNeg) = v1 then (X11_outOf_42_b31 N S rec4 v1 v2 v3) else (X11_outOf_42_b36 N S rec4 v1 v2 v3 (0 : Int32))) else none)))
set_option maxHeartbeats 4000000 in
set_option maxRecDepth 100000 in
theorem X11_outOf_42_b4_ok {C : aC} {N : Nat} {S : aSt} {rec4 : Int32 → Int32 → Int32 → Option (Int32)} (hC : aCx C M_X11_outOf) {r : Int32} (hF : aFin C (some (.int r)) LAY S 0 0) (hrec4 : ∀ (v1 : Int32) (v2 : Int32) (v3 : Int32), rec4 v1 v2 v3 = (some r) → aX C M_X11_outOf 0 0 (4, [(0, .ref 42), (1, .int v1), (2, .int v2), (3, .int v3)], [], LAY, S)) (v1 : Int32) (v2 : Int32) (v3 : Int32) (hf : X11_outOf_42_b4 N S rec4 v1 v2 v3 = (some r)) : aX C M_X11_outOf 0 0 (4, [(0, .ref 42), (1, .int v1), (2, .int v2), (3, .int v3)], [], LAY, S) := by
  have hT := ok_X11_outOf
  unfold X11_outOf_42_b4 at hf
  refine aRun_ok hC hT 3 (cf' := (9, [(0, .ref 42), (1, .int v1), (2, .int v2), (3, .int v3)], [.int (S.1 42 5), .int v3], LAY, S)) (by rfl) ?_
  refine aCmp_ge hC hT (tgt := 91) rfl (by decide) (fun hc1 => ?_) (fun hc1 => ?_)
  · have hf := aIfT hf hc1
    refine aRun_ok hC hT 1 (cf' := (92, [(0, .ref 42), (1, .int v1), (2, .int v2), (3, .int v3)], [.int v2], LAY, S)) (by rfl) ?_
    have e9 := Option.some.inj hf; subst e9
    exact aRetI hC hT hF rfl rfl
  · have hf := aIfF hf hc1
    refine aRun_ok hC hT 2 (cf' := (14, [(0, .ref 42), (1, .int v1), (2, .int v2), (3, .int v3)], [.int ((-1) : Int32), .int v1], LAY, S)) (by rfl) ?_
    refine aCmp_eq hC hT (tgt := 31) rfl (by decide) (fun hc2 => ?_) (fun hc2 => ?_)
    · have hf := aIfT hf hc2
      exact X11_outOf_42_b31_ok hC hF hrec4 v1 v2 v3 hf
    · have hf := aIfF hf hc2
      refine aRun_ok hC hT 7 (cf' := (26, [(0, .ref 42), (1, .int v1), (2, .int v2), (3, .int v3)], [.int (((5 : Int32) * v3) + (4 : Int32)), .ref 45], LAY, S)) (by rfl) ?_
      obtain ⟨hin8, hf⟩ := aGdE hf
      refine aIald hC hT rfl (by decide) (by rfl) hin8 ?_
      refine aRun_ok hC hT 1 (cf' := (28, [(0, .ref 42), (1, .int v1), (2, .int v2), (3, .int v3)], [.int v1, .int ((S.2.2 45) (((5 : Int32) * v3) + (4 : Int32)).toNatClampNeg)], LAY, S)) (by rfl) ?_
      refine aCmp_ne hC hT (tgt := 35) rfl (by decide) (fun hc9 => ?_) (fun hc9 => ?_)
      · have hf := aIfF hf hc9
        refine aRun_ok hC hT 1 (cf' := (36, [(0, .ref 42), (1, .int v1), (2, .int v2), (3, .int v3)], [.int (0 : Int32)], LAY, S)) (by rfl) ?_
        exact X11_outOf_42_b36_ok hC hF hrec4 v1 v2 v3 (0 : Int32) hf
      · have hf := aIfT hf hc9
        exact X11_outOf_42_b31_ok hC hF hrec4 v1 v2 v3 hf
def X11_outOf_42_l4 (N : Nat) (S : aSt) : Nat → Int32 → Int32 → Int32 → Option (Int32)
  | 0 => fun _ _ _ => none
  | n + 1 => X11_outOf_42_b4 N S (X11_outOf_42_l4 N S n)
theorem X11_outOf_42_l4_ok {C : aC} {N : Nat} {S : aSt} (hC : aCx C M_X11_outOf) {r : Int32} (hF : aFin C (some (.int r)) LAY S 0 0) : ∀ (n : Nat) (v1 : Int32) (v2 : Int32) (v3 : Int32), X11_outOf_42_l4 N S n v1 v2 v3 = (some r) → aX C M_X11_outOf 0 0 (4, [(0, .ref 42), (1, .int v1), (2, .int v2), (3, .int v3)], [], LAY, S)
  | 0, _, _, _,  h => nomatch (show (none : Option (Int32)) = some _ from h)
  | n + 1, v1, v2, v3,  h => X11_outOf_42_b4_ok hC hF (fun v1 v2 v3 h => X11_outOf_42_l4_ok hC hF n v1 v2 v3 h) v1 v2 v3 h
def X11_outOf_42 (N : Nat) (a1 : Int32) (S : aSt) : Option (Int32) := (X11_outOf_42_l4 N S N a1 (0 : Int32) (0 : Int32))
set_option maxHeartbeats 4000000 in
set_option maxRecDepth 100000 in
theorem J_X11_outOf_42 (l : Launch) (g : aWg) (N : Nat) (a1 : Int32) (S : aSt) {r : Int32} (hf : X11_outOf_42 N a1 S = (some r)) : aJ l g yX11_outOf M_X11_outOf [.ref 42, .int a1] LAY S (some (.int r)) LAY S 0 0 := by
  refine aJ_of (by decide +kernel) rfl (Nat.le_of_ble_eq_true rfl) (fun h => nomatch h) ?_
  intro C hg hl hC hz hF
  subst hg; subst hl
  have hT := ok_X11_outOf
  unfold X11_outOf_42 at hf
  show aX C M_X11_outOf 0 0 (0, [(0, .ref 42), (1, .int a1)], [], LAY, S)
  refine aRun_ok hC hT 4 (cf' := (4, [(3, .int (0 : Int32)), (2, .int (0 : Int32)), (0, .ref 42), (1, .int a1)], [], LAY, S)) (by rfl) ?_
  refine aLocs [2, 3, 1, 0] (lv' := [(0, .ref 42), (1, .int a1), (2, .int (0 : Int32)), (3, .int (0 : Int32))]) rfl ?_
  exact X11_outOf_42_l4_ok hC hF N a1 (0 : Int32) (0 : Int32) hf
def X11_isUsed_42_b35 (N : Nat) (S : aSt) (rec4 : Int32 → Int32 → Int32 → Option (Int32)) (v1 : Int32) (v3 : Int32) (s0 : Int32) : Option (Int32) := (rec4 v1 s0 (v3 + (1 : Int32)))
set_option maxHeartbeats 4000000 in
set_option maxRecDepth 100000 in
theorem X11_isUsed_42_b35_ok {C : aC} {N : Nat} {S : aSt} {rec4 : Int32 → Int32 → Int32 → Option (Int32)} (hC : aCx C M_X11_isUsed) {r : Int32} (hF : aFin C (some (.int r)) LAY S 0 0) (hrec4 : ∀ (v1 : Int32) (v2 : Int32) (v3 : Int32), rec4 v1 v2 v3 = (some r) → aX C M_X11_isUsed 0 0 (4, [(0, .ref 42), (1, .int v1), (2, .int v2), (3, .int v3)], [], LAY, S)) (v1 : Int32) (v3 : Int32) (s0 : Int32) (hf : X11_isUsed_42_b35 N S rec4 v1 v3 s0 = (some r)) : aX C M_X11_isUsed 0 0 (35, [(0, .ref 42), (1, .int v1), (3, .int v3)], [.int s0], LAY, S) := by
  have hT := ok_X11_isUsed
  unfold X11_isUsed_42_b35 at hf
  refine aRun_ok hC hT 3 (cf' := (4, [(3, .int (v3 + (1 : Int32))), (2, .int s0), (0, .ref 42), (1, .int v1)], [], LAY, S)) (by rfl) ?_
  refine aLocs [2, 3, 1, 0] (lv' := [(0, .ref 42), (1, .int v1), (2, .int s0), (3, .int (v3 + (1 : Int32)))]) rfl ?_
  exact hrec4 v1 s0 (v3 + (1 : Int32)) hf
def X11_isUsed_42_b30 (N : Nat) (S : aSt) (rec4 : Int32 → Int32 → Int32 → Option (Int32)) (v1 : Int32) (v3 : Int32) : Option (Int32) := (X11_isUsed_42_b35 N S rec4 v1 v3 (1 : Int32))
set_option maxHeartbeats 4000000 in
set_option maxRecDepth 100000 in
theorem X11_isUsed_42_b30_ok {C : aC} {N : Nat} {S : aSt} {rec4 : Int32 → Int32 → Int32 → Option (Int32)} (hC : aCx C M_X11_isUsed) {r : Int32} (hF : aFin C (some (.int r)) LAY S 0 0) (hrec4 : ∀ (v1 : Int32) (v2 : Int32) (v3 : Int32), rec4 v1 v2 v3 = (some r) → aX C M_X11_isUsed 0 0 (4, [(0, .ref 42), (1, .int v1), (2, .int v2), (3, .int v3)], [], LAY, S)) (v1 : Int32) (v3 : Int32) (hf : X11_isUsed_42_b30 N S rec4 v1 v3 = (some r)) : aX C M_X11_isUsed 0 0 (30, [(0, .ref 42), (1, .int v1), (3, .int v3)], [], LAY, S) := by
  have hT := ok_X11_isUsed
  unfold X11_isUsed_42_b30 at hf
  refine aRun_ok hC hT 2 (cf' := (35, [(0, .ref 42), (1, .int v1), (3, .int v3)], [.int (1 : Int32)], LAY, S)) (by rfl) ?_
  exact X11_isUsed_42_b35_ok hC hF hrec4 v1 v3 (1 : Int32) hf
def X11_isUsed_42_b4 (N : Nat) (S : aSt) (rec4 : Int32 → Int32 → Int32 → Option (Int32)) (v1 : Int32) (v2 : Int32) (v3 : Int32) : Option (Int32) := (if (S.1 42 5) ≤ v3 then (if v2 = 0 ∨ v2 = 1 then some (v2) else none) else (if v2 = (0 : Int32) then (if aIx (((5 : Int32) * v3) + (4 : Int32)) 150 = true then (if ((S.2.2 45) (((5 : Int32) * v3) + (4 : Int32)).toNatClampNeg) = v1 then (X11_isUsed_42_b30 N S rec4 v1 v3) else (X11_isUsed_42_b35 N S rec4 v1 v3 (0 : Int32))) else none) else (X11_isUsed_42_b30 N S rec4 v1 v3)))
set_option maxHeartbeats 4000000 in
set_option maxRecDepth 100000 in
theorem X11_isUsed_42_b4_ok {C : aC} {N : Nat} {S : aSt} {rec4 : Int32 → Int32 → Int32 → Option (Int32)} (hC : aCx C M_X11_isUsed) {r : Int32} (hF : aFin C (some (.int r)) LAY S 0 0) (hrec4 : ∀ (v1 : Int32) (v2 : Int32) (v3 : Int32), rec4 v1 v2 v3 = (some r) → aX C M_X11_isUsed 0 0 (4, [(0, .ref 42), (1, .int v1), (2, .int v2), (3, .int v3)], [], LAY, S)) (v1 : Int32) (v2 : Int32) (v3 : Int32) (hf : X11_isUsed_42_b4 N S rec4 v1 v2 v3 = (some r)) : aX C M_X11_isUsed 0 0 (4, [(0, .ref 42), (1, .int v1), (2, .int v2), (3, .int v3)], [], LAY, S) := by
  have hT := ok_X11_isUsed
  unfold X11_isUsed_42_b4 at hf
  refine aRun_ok hC hT 3 (cf' := (9, [(0, .ref 42), (1, .int v1), (2, .int v2), (3, .int v3)], [.int (S.1 42 5), .int v3], LAY, S)) (by rfl) ?_
  refine aCmp_ge hC hT (tgt := 42) rfl (by decide) (fun hc1 => ?_) (fun hc1 => ?_)
  · have hf := aIfT hf hc1
    refine aRun_ok hC hT 1 (cf' := (43, [(0, .ref 42), (1, .int v1), (2, .int v2), (3, .int v3)], [.int v2], LAY, S)) (by rfl) ?_
    obtain ⟨hb2, hf⟩ := aGdE hf
    have e9 := Option.some.inj hf; subst e9
    exact aRetB hC hT hF rfl hb2 rfl
  · have hf := aIfF hf hc1
    refine aRun_ok hC hT 1 (cf' := (13, [(0, .ref 42), (1, .int v1), (2, .int v2), (3, .int v3)], [.int v2], LAY, S)) (by rfl) ?_
    refine aIf_ne hC hT (tgt := 30) rfl (by decide) (fun hc3 => ?_) (fun hc3 => ?_)
    · have hf := aIfF hf hc3
      refine aLocs [0, 1, 3] (lv' := [(0, .ref 42), (1, .int v1), (3, .int v3)]) rfl ?_
      exact X11_isUsed_42_b30_ok hC hF hrec4 v1 v3 hf
    · have hf := aIfT hf hc3
      refine aRun_ok hC hT 7 (cf' := (25, [(0, .ref 42), (1, .int v1), (2, .int v2), (3, .int v3)], [.int (((5 : Int32) * v3) + (4 : Int32)), .ref 45], LAY, S)) (by rfl) ?_
      obtain ⟨hin4, hf⟩ := aGdE hf
      refine aIald hC hT rfl (by decide) (by rfl) hin4 ?_
      refine aRun_ok hC hT 1 (cf' := (27, [(0, .ref 42), (1, .int v1), (2, .int v2), (3, .int v3)], [.int v1, .int ((S.2.2 45) (((5 : Int32) * v3) + (4 : Int32)).toNatClampNeg)], LAY, S)) (by rfl) ?_
      refine aCmp_ne hC hT (tgt := 34) rfl (by decide) (fun hc5 => ?_) (fun hc5 => ?_)
      · have hf := aIfF hf hc5
        refine aRun_ok hC hT 1 (cf' := (35, [(0, .ref 42), (1, .int v1), (2, .int v2), (3, .int v3)], [.int (0 : Int32)], LAY, S)) (by rfl) ?_
        refine aLocs [0, 1, 3] (lv' := [(0, .ref 42), (1, .int v1), (3, .int v3)]) rfl ?_
        exact X11_isUsed_42_b35_ok hC hF hrec4 v1 v3 (0 : Int32) hf
      · have hf := aIfT hf hc5
        refine aLocs [0, 1, 3] (lv' := [(0, .ref 42), (1, .int v1), (3, .int v3)]) rfl ?_
        exact X11_isUsed_42_b30_ok hC hF hrec4 v1 v3 hf
def X11_isUsed_42_l4 (N : Nat) (S : aSt) : Nat → Int32 → Int32 → Int32 → Option (Int32)
  | 0 => fun _ _ _ => none
  | n + 1 => X11_isUsed_42_b4 N S (X11_isUsed_42_l4 N S n)
theorem X11_isUsed_42_l4_ok {C : aC} {N : Nat} {S : aSt} (hC : aCx C M_X11_isUsed) {r : Int32} (hF : aFin C (some (.int r)) LAY S 0 0) : ∀ (n : Nat) (v1 : Int32) (v2 : Int32) (v3 : Int32), X11_isUsed_42_l4 N S n v1 v2 v3 = (some r) → aX C M_X11_isUsed 0 0 (4, [(0, .ref 42), (1, .int v1), (2, .int v2), (3, .int v3)], [], LAY, S)
  | 0, _, _, _,  h => nomatch (show (none : Option (Int32)) = some _ from h)
  | n + 1, v1, v2, v3,  h => X11_isUsed_42_b4_ok hC hF (fun v1 v2 v3 h => X11_isUsed_42_l4_ok hC hF n v1 v2 v3 h) v1 v2 v3 h
def X11_isUsed_42 (N : Nat) (a1 : Int32) (S : aSt) : Option (Int32) := (X11_isUsed_42_l4 N S N a1 (0 : Int32) (0 : Int32))
set_option maxHeartbeats 4000000 in
set_option maxRecDepth 100000 in
theorem J_X11_isUsed_42 (l : Launch) (g : aWg) (N : Nat) (a1 : Int32) (S : aSt) {r : Int32} (hf : X11_isUsed_42 N a1 S = (some r)) : aJ l g yX11_isUsed M_X11_isUsed [.ref 42, .int a1] LAY S (some (.int r)) LAY S 0 0 := by
  refine aJ_of (by decide +kernel) rfl (Nat.le_of_ble_eq_true rfl) (fun h => nomatch h) ?_
  intro C hg hl hC hz hF
  subst hg; subst hl
  have hT := ok_X11_isUsed
  unfold X11_isUsed_42 at hf
  show aX C M_X11_isUsed 0 0 (0, [(0, .ref 42), (1, .int a1)], [], LAY, S)
  refine aRun_ok hC hT 4 (cf' := (4, [(3, .int (0 : Int32)), (2, .int (0 : Int32)), (0, .ref 42), (1, .int a1)], [], LAY, S)) (by rfl) ?_
  refine aLocs [2, 3, 1, 0] (lv' := [(0, .ref 42), (1, .int a1), (2, .int (0 : Int32)), (3, .int (0 : Int32))]) rfl ?_
  exact X11_isUsed_42_l4_ok hC hF N a1 (0 : Int32) (0 : Int32) hf
def X11_power_b4 (N : Nat) (rec4 : Int32 → Int32 → Int32 → Option (Int32)) (v0 : Int32) (v1 : Int32) (v2 : Int32) : Option (Int32) := (if v0 ≤ v2 then some (v1) else (rec4 v0 (v1 * (10 : Int32)) (v2 + (1 : Int32))))
set_option maxHeartbeats 4000000 in
set_option maxRecDepth 100000 in
theorem X11_power_b4_ok {C : aC} {N : Nat} {S : aSt} {rec4 : Int32 → Int32 → Int32 → Option (Int32)} (hC : aCx C M_X11_power) {r : Int32} (hF : aFin C (some (.int r)) LAY S 0 0) (hrec4 : ∀ (v0 : Int32) (v1 : Int32) (v2 : Int32), rec4 v0 v1 v2 = (some r) → aX C M_X11_power 0 0 (4, [(0, .int v0), (1, .int v1), (2, .int v2)], [], LAY, S)) (v0 : Int32) (v1 : Int32) (v2 : Int32) (hf : X11_power_b4 N rec4 v0 v1 v2 = (some r)) : aX C M_X11_power 0 0 (4, [(0, .int v0), (1, .int v1), (2, .int v2)], [], LAY, S) := by
  have hT := ok_X11_power
  unfold X11_power_b4 at hf
  refine aRun_ok hC hT 2 (cf' := (6, [(0, .int v0), (1, .int v1), (2, .int v2)], [.int v0, .int v2], LAY, S)) (by rfl) ?_
  refine aCmp_ge hC hT (tgt := 20) rfl (by decide) (fun hc1 => ?_) (fun hc1 => ?_)
  · have hf := aIfT hf hc1
    refine aRun_ok hC hT 1 (cf' := (21, [(0, .int v0), (1, .int v1), (2, .int v2)], [.int v1], LAY, S)) (by rfl) ?_
    have e9 := Option.some.inj hf; subst e9
    exact aRetI hC hT hF rfl rfl
  · have hf := aIfF hf hc1
    refine aRun_ok hC hT 6 (cf' := (4, [(2, .int (v2 + (1 : Int32))), (1, .int (v1 * (10 : Int32))), (0, .int v0)], [], LAY, S)) (by rfl) ?_
    refine aLocs [2, 1, 0] (lv' := [(0, .int v0), (1, .int (v1 * (10 : Int32))), (2, .int (v2 + (1 : Int32)))]) rfl ?_
    exact hrec4 v0 (v1 * (10 : Int32)) (v2 + (1 : Int32)) hf
def X11_power_l4 (N : Nat) : Nat → Int32 → Int32 → Int32 → Option (Int32)
  | 0 => fun _ _ _ => none
  | n + 1 => X11_power_b4 N (X11_power_l4 N n)
theorem X11_power_l4_ok {C : aC} {N : Nat} {S : aSt} (hC : aCx C M_X11_power) {r : Int32} (hF : aFin C (some (.int r)) LAY S 0 0) : ∀ (n : Nat) (v0 : Int32) (v1 : Int32) (v2 : Int32), X11_power_l4 N n v0 v1 v2 = (some r) → aX C M_X11_power 0 0 (4, [(0, .int v0), (1, .int v1), (2, .int v2)], [], LAY, S)
  | 0, _, _, _,  h => nomatch (show (none : Option (Int32)) = some _ from h)
  | n + 1, v0, v1, v2,  h => X11_power_b4_ok hC hF (fun v0 v1 v2 h => X11_power_l4_ok hC hF n v0 v1 v2 h) v0 v1 v2 h
def X11_power (N : Nat) (a0 : Int32) : Option (Int32) := (X11_power_l4 N N a0 (1 : Int32) (0 : Int32))
set_option maxHeartbeats 4000000 in
set_option maxRecDepth 100000 in
theorem J_X11_power (l : Launch) (g : aWg) (N : Nat) (a0 : Int32) (S : aSt) {r : Int32} (hf : X11_power N a0 = (some r)) : aJ l g yX11_power M_X11_power [.int a0] LAY S (some (.int r)) LAY S 0 0 := by
  refine aJ_of (by decide +kernel) rfl (Nat.le_of_ble_eq_true rfl) (fun h => nomatch h) ?_
  intro C hg hl hC hz hF
  subst hg; subst hl
  have hT := ok_X11_power
  unfold X11_power at hf
  show aX C M_X11_power 0 0 (0, [(0, .int a0)], [], LAY, S)
  refine aRun_ok hC hT 4 (cf' := (4, [(2, .int (0 : Int32)), (1, .int (1 : Int32)), (0, .int a0)], [], LAY, S)) (by rfl) ?_
  refine aLocs [2, 1, 0] (lv' := [(0, .int a0), (1, .int (1 : Int32)), (2, .int (0 : Int32))]) rfl ?_
  exact X11_power_l4_ok hC hF N a0 (1 : Int32) (0 : Int32) hf
def X11_add_42_b148 (N : Nat) (v1 : Int32) (v2 : Int32) (v3 : Int32) (v4 : Int32) (v5 : Int32) (v6 : Int32) (S : aSt) : Option (aSt) := (if aIx v6 2048 = true then (if aIx v6 2048 = true then (if aIx v6 2048 = true then (if aIx v6 2048 = true then (if aIx v6 2048 = true then some ((aI (aA (aA (aA (aA (aA S 50 (upd (S.2.2 50) v6.toNatClampNeg v1)) 51 (upd (S.2.2 51) v6.toNatClampNeg v2)) 52 (upd (S.2.2 52) v6.toNatClampNeg v3)) 53 (upd (S.2.2 53) v6.toNatClampNeg v4)) 54 (upd (S.2.2 54) v6.toNatClampNeg v5)) 42 23 ((S.1 42 23) + (1 : Int32)))) else none) else none) else none) else none) else none)
set_option maxHeartbeats 4000000 in
set_option maxRecDepth 100000 in
theorem X11_add_42_b148_ok {C : aC} {N : Nat} (hC : aCx C M_X11_add) {r : aSt} (hF : aFin C none LAY r 0 0) (v1 : Int32) (v2 : Int32) (v3 : Int32) (v4 : Int32) (v5 : Int32) (v6 : Int32) (S : aSt) (hf : X11_add_42_b148 N v1 v2 v3 v4 v5 v6 S = (some r)) : aX C M_X11_add 0 0 (148, [(0, .ref 42), (1, .int v1), (2, .int v2), (3, .int v3), (4, .int v4), (5, .int v5), (6, .int v6)], [], LAY, S) := by
  have hT := ok_X11_add
  unfold X11_add_42_b148 at hf
  refine aRun_ok hC hT 4 (cf' := (155, [(0, .ref 42), (1, .int v1), (2, .int v2), (3, .int v3), (4, .int v4), (5, .int v5), (6, .int v6)], [.int v1, .int v6, .ref 50], LAY, S)) (by rfl) ?_
  obtain ⟨hin3, hf⟩ := aGdE hf
  refine aIast hC hT rfl (by decide) (by rfl) hin3 ?_
  refine aRun_ok hC hT 4 (cf' := (163, [(0, .ref 42), (1, .int v1), (2, .int v2), (3, .int v3), (4, .int v4), (5, .int v5), (6, .int v6)], [.int v2, .int v6, .ref 51], LAY, (aA S 50 (upd (S.2.2 50) v6.toNatClampNeg v1)))) (by rfl) ?_
  obtain ⟨hin4, hf⟩ := aGdE hf
  refine aIast hC hT rfl (by decide) (by rfl) hin4 ?_
  refine aRun_ok hC hT 4 (cf' := (171, [(0, .ref 42), (1, .int v1), (2, .int v2), (3, .int v3), (4, .int v4), (5, .int v5), (6, .int v6)], [.int v3, .int v6, .ref 52], LAY, (aA (aA S 50 (upd (S.2.2 50) v6.toNatClampNeg v1)) 51 (upd (S.2.2 51) v6.toNatClampNeg v2)))) (by rfl) ?_
  obtain ⟨hin5, hf⟩ := aGdE hf
  refine aIast hC hT rfl (by decide) (by rfl) hin5 ?_
  refine aRun_ok hC hT 4 (cf' := (180, [(0, .ref 42), (1, .int v1), (2, .int v2), (3, .int v3), (4, .int v4), (5, .int v5), (6, .int v6)], [.int v4, .int v6, .ref 53], LAY, (aA (aA (aA S 50 (upd (S.2.2 50) v6.toNatClampNeg v1)) 51 (upd (S.2.2 51) v6.toNatClampNeg v2)) 52 (upd (S.2.2 52) v6.toNatClampNeg v3)))) (by rfl) ?_
  obtain ⟨hin6, hf⟩ := aGdE hf
  refine aIast hC hT rfl (by decide) (by rfl) hin6 ?_
  refine aRun_ok hC hT 4 (cf' := (189, [(0, .ref 42), (1, .int v1), (2, .int v2), (3, .int v3), (4, .int v4), (5, .int v5), (6, .int v6)], [.int v5, .int v6, .ref 54], LAY, (aA (aA (aA (aA S 50 (upd (S.2.2 50) v6.toNatClampNeg v1)) 51 (upd (S.2.2 51) v6.toNatClampNeg v2)) 52 (upd (S.2.2 52) v6.toNatClampNeg v3)) 53 (upd (S.2.2 53) v6.toNatClampNeg v4)))) (by rfl) ?_
  obtain ⟨hin7, hf⟩ := aGdE hf
  refine aIast hC hT rfl (by decide) (by rfl) hin7 ?_
  refine aRun_ok hC hT 6 (cf' := (200, [(0, .ref 42), (1, .int v1), (2, .int v2), (3, .int v3), (4, .int v4), (5, .int v5), (6, .int v6)], [], LAY, (aI (aA (aA (aA (aA (aA S 50 (upd (S.2.2 50) v6.toNatClampNeg v1)) 51 (upd (S.2.2 51) v6.toNatClampNeg v2)) 52 (upd (S.2.2 52) v6.toNatClampNeg v3)) 53 (upd (S.2.2 53) v6.toNatClampNeg v4)) 54 (upd (S.2.2 54) v6.toNatClampNeg v5)) 42 23 ((S.1 42 23) + (1 : Int32))))) (by rfl) ?_
  have e9 := Option.some.inj hf; subst e9
  exact aRetV hC hT hF rfl rfl
def X11_add_42_b12 (N : Nat) (rec12 : Int32 → Int32 → Int32 → Int32 → Int32 → Int32 → aSt → Option (aSt)) (v1 : Int32) (v2 : Int32) (v3 : Int32) (v4 : Int32) (v5 : Int32) (v6 : Int32) (S : aSt) : Option (aSt) := (if v6 ≤ (0 : Int32) then (X11_add_42_b148 N v1 v2 v3 v4 v5 v6 S) else (if v1 = (6 : Int32) then (X11_add_42_b148 N v1 v2 v3 v4 v5 v6 S) else (if aIx (v6 - (1 : Int32)) 2048 = true then (if ((S.2.2 50) (v6 - (1 : Int32)).toNatClampNeg) = v1 then (if aIx (v6 - (1 : Int32)) 2048 = true then (if ((S.2.2 51) (v6 - (1 : Int32)).toNatClampNeg) = v2 then (if aIx (v6 - (1 : Int32)) 2048 = true then (if ((S.2.2 52) (v6 - (1 : Int32)).toNatClampNeg) ≤ v3 then (X11_add_42_b148 N v1 v2 v3 v4 v5 v6 S) else (if aIx (v6 - (1 : Int32)) 2048 = true then (if aIx v6 2048 = true then (if aIx (v6 - (1 : Int32)) 2048 = true then (if aIx v6 2048 = true then (if aIx (v6 - (1 : Int32)) 2048 = true then (if aIx v6 2048 = true then (if aIx (v6 - (1 : Int32)) 2048 = true then (if aIx v6 2048 = true then (if aIx (v6 - (1 : Int32)) 2048 = true then (if aIx v6 2048 = true then (rec12 v1 v2 v3 v4 v5 (v6 + ((-1) : Int32)) (aA (aA (aA (aA (aA S 50 (upd (S.2.2 50) v6.toNatClampNeg ((S.2.2 50) (v6 - (1 : Int32)).toNatClampNeg))) 51 (upd (S.2.2 51) v6.toNatClampNeg ((S.2.2 51) (v6 - (1 : Int32)).toNatClampNeg))) 52 (upd (S.2.2 52) v6.toNatClampNeg ((S.2.2 52) (v6 - (1 : Int32)).toNatClampNeg))) 53 (upd (S.2.2 53) v6.toNatClampNeg ((S.2.2 53) (v6 - (1 : Int32)).toNatClampNeg))) 54 (upd (S.2.2 54) v6.toNatClampNeg ((S.2.2 54) (v6 - (1 : Int32)).toNatClampNeg)))) else none) else none) else none) else none) else none) else none) else none) else none) else none) else none)) else none) else (X11_add_42_b148 N v1 v2 v3 v4 v5 v6 S)) else none) else (X11_add_42_b148 N v1 v2 v3 v4 v5 v6 S)) else none)))
set_option maxHeartbeats 4000000 in
set_option maxRecDepth 100000 in
theorem X11_add_42_b12_ok {C : aC} {N : Nat} {rec12 : Int32 → Int32 → Int32 → Int32 → Int32 → Int32 → aSt → Option (aSt)} (hC : aCx C M_X11_add) {r : aSt} (hF : aFin C none LAY r 0 0) (hrec12 : ∀ (v1 : Int32) (v2 : Int32) (v3 : Int32) (v4 : Int32) (v5 : Int32) (v6 : Int32) (S : aSt), rec12 v1 v2 v3 v4 v5 v6 S = (some r) → aX C M_X11_add 0 0 (12, [(0, .ref 42), (1, .int v1), (2, .int v2), (3, .int v3), (4, .int v4), (5, .int v5), (6, .int v6)], [], LAY, S)) (v1 : Int32) (v2 : Int32) (v3 : Int32) (v4 : Int32) (v5 : Int32) (v6 : Int32) (S : aSt) (hf : X11_add_42_b12 N rec12 v1 v2 v3 v4 v5 v6 S = (some r)) : aX C M_X11_add 0 0 (12, [(0, .ref 42), (1, .int v1), (2, .int v2), (3, .int v3), (4, .int v4), (5, .int v5), (6, .int v6)], [], LAY, S) := by
  have hT := ok_X11_add
  unfold X11_add_42_b12 at hf
  refine aRun_ok hC hT 1 (cf' := (14, [(0, .ref 42), (1, .int v1), (2, .int v2), (3, .int v3), (4, .int v4), (5, .int v5), (6, .int v6)], [.int v6], LAY, S)) (by rfl) ?_
  refine aIf_le hC hT (tgt := 148) rfl (by decide) (fun hc2 => ?_) (fun hc2 => ?_)
  · have hf := aIfT hf hc2
    exact X11_add_42_b148_ok hC hF v1 v2 v3 v4 v5 v6 S hf
  · have hf := aIfF hf hc2
    refine aRun_ok hC hT 2 (cf' := (20, [(0, .ref 42), (1, .int v1), (2, .int v2), (3, .int v3), (4, .int v4), (5, .int v5), (6, .int v6)], [.int (6 : Int32), .int v1], LAY, S)) (by rfl) ?_
    refine aCmp_eq hC hT (tgt := 148) rfl (by decide) (fun hc8 => ?_) (fun hc8 => ?_)
    · have hf := aIfT hf hc8
      exact X11_add_42_b148_ok hC hF v1 v2 v3 v4 v5 v6 S hf
    · have hf := aIfF hf hc8
      refine aRun_ok hC hT 5 (cf' := (31, [(0, .ref 42), (1, .int v1), (2, .int v2), (3, .int v3), (4, .int v4), (5, .int v5), (6, .int v6)], [.int (v6 - (1 : Int32)), .ref 50], LAY, S)) (by rfl) ?_
      obtain ⟨hin9, hf⟩ := aGdE hf
      refine aIald hC hT rfl (by decide) (by rfl) hin9 ?_
      refine aRun_ok hC hT 1 (cf' := (33, [(0, .ref 42), (1, .int v1), (2, .int v2), (3, .int v3), (4, .int v4), (5, .int v5), (6, .int v6)], [.int v1, .int ((S.2.2 50) (v6 - (1 : Int32)).toNatClampNeg)], LAY, S)) (by rfl) ?_
      refine aCmp_ne hC hT (tgt := 148) rfl (by decide) (fun hc10 => ?_) (fun hc10 => ?_)
      · have hf := aIfF hf hc10
        exact X11_add_42_b148_ok hC hF v1 v2 v3 v4 v5 v6 S hf
      · have hf := aIfT hf hc10
        refine aRun_ok hC hT 5 (cf' := (44, [(0, .ref 42), (1, .int v1), (2, .int v2), (3, .int v3), (4, .int v4), (5, .int v5), (6, .int v6)], [.int (v6 - (1 : Int32)), .ref 51], LAY, S)) (by rfl) ?_
        obtain ⟨hin11, hf⟩ := aGdE hf
        refine aIald hC hT rfl (by decide) (by rfl) hin11 ?_
        refine aRun_ok hC hT 1 (cf' := (46, [(0, .ref 42), (1, .int v1), (2, .int v2), (3, .int v3), (4, .int v4), (5, .int v5), (6, .int v6)], [.int v2, .int ((S.2.2 51) (v6 - (1 : Int32)).toNatClampNeg)], LAY, S)) (by rfl) ?_
        refine aCmp_ne hC hT (tgt := 148) rfl (by decide) (fun hc12 => ?_) (fun hc12 => ?_)
        · have hf := aIfF hf hc12
          exact X11_add_42_b148_ok hC hF v1 v2 v3 v4 v5 v6 S hf
        · have hf := aIfT hf hc12
          refine aRun_ok hC hT 5 (cf' := (57, [(0, .ref 42), (1, .int v1), (2, .int v2), (3, .int v3), (4, .int v4), (5, .int v5), (6, .int v6)], [.int (v6 - (1 : Int32)), .ref 52], LAY, S)) (by rfl) ?_
          obtain ⟨hin13, hf⟩ := aGdE hf
          refine aIald hC hT rfl (by decide) (by rfl) hin13 ?_
          refine aRun_ok hC hT 1 (cf' := (59, [(0, .ref 42), (1, .int v1), (2, .int v2), (3, .int v3), (4, .int v4), (5, .int v5), (6, .int v6)], [.int v3, .int ((S.2.2 52) (v6 - (1 : Int32)).toNatClampNeg)], LAY, S)) (by rfl) ?_
          refine aCmp_le hC hT (tgt := 148) rfl (by decide) (fun hc14 => ?_) (fun hc14 => ?_)
          · have hf := aIfT hf hc14
            exact X11_add_42_b148_ok hC hF v1 v2 v3 v4 v5 v6 S hf
          · have hf := aIfF hf hc14
            refine aRun_ok hC hT 8 (cf' := (76, [(0, .ref 42), (1, .int v1), (2, .int v2), (3, .int v3), (4, .int v4), (5, .int v5), (6, .int v6)], [.int (v6 - (1 : Int32)), .ref 50, .int v6, .ref 50], LAY, S)) (by rfl) ?_
            obtain ⟨hin15, hf⟩ := aGdE hf
            refine aIald hC hT rfl (by decide) (by rfl) hin15 ?_
            obtain ⟨hin16, hf⟩ := aGdE hf
            refine aIast hC hT rfl (by decide) (by rfl) hin16 ?_
            refine aRun_ok hC hT 8 (cf' := (92, [(0, .ref 42), (1, .int v1), (2, .int v2), (3, .int v3), (4, .int v4), (5, .int v5), (6, .int v6)], [.int (v6 - (1 : Int32)), .ref 51, .int v6, .ref 51], LAY, (aA S 50 (upd (S.2.2 50) v6.toNatClampNeg ((S.2.2 50) (v6 - (1 : Int32)).toNatClampNeg))))) (by rfl) ?_
            obtain ⟨hin17, hf⟩ := aGdE hf
            refine aIald hC hT rfl (by decide) (by rfl) hin17 ?_
            obtain ⟨hin18, hf⟩ := aGdE hf
            refine aIast hC hT rfl (by decide) (by rfl) hin18 ?_
            refine aRun_ok hC hT 8 (cf' := (108, [(0, .ref 42), (1, .int v1), (2, .int v2), (3, .int v3), (4, .int v4), (5, .int v5), (6, .int v6)], [.int (v6 - (1 : Int32)), .ref 52, .int v6, .ref 52], LAY, (aA (aA S 50 (upd (S.2.2 50) v6.toNatClampNeg ((S.2.2 50) (v6 - (1 : Int32)).toNatClampNeg))) 51 (upd (S.2.2 51) v6.toNatClampNeg ((S.2.2 51) (v6 - (1 : Int32)).toNatClampNeg))))) (by rfl) ?_
            obtain ⟨hin19, hf⟩ := aGdE hf
            refine aIald hC hT rfl (by decide) (by rfl) hin19 ?_
            obtain ⟨hin20, hf⟩ := aGdE hf
            refine aIast hC hT rfl (by decide) (by rfl) hin20 ?_
            refine aRun_ok hC hT 8 (cf' := (124, [(0, .ref 42), (1, .int v1), (2, .int v2), (3, .int v3), (4, .int v4), (5, .int v5), (6, .int v6)], [.int (v6 - (1 : Int32)), .ref 53, .int v6, .ref 53], LAY, (aA (aA (aA S 50 (upd (S.2.2 50) v6.toNatClampNeg ((S.2.2 50) (v6 - (1 : Int32)).toNatClampNeg))) 51 (upd (S.2.2 51) v6.toNatClampNeg ((S.2.2 51) (v6 - (1 : Int32)).toNatClampNeg))) 52 (upd (S.2.2 52) v6.toNatClampNeg ((S.2.2 52) (v6 - (1 : Int32)).toNatClampNeg))))) (by rfl) ?_
            obtain ⟨hin21, hf⟩ := aGdE hf
            refine aIald hC hT rfl (by decide) (by rfl) hin21 ?_
            obtain ⟨hin22, hf⟩ := aGdE hf
            refine aIast hC hT rfl (by decide) (by rfl) hin22 ?_
            refine aRun_ok hC hT 8 (cf' := (140, [(0, .ref 42), (1, .int v1), (2, .int v2), (3, .int v3), (4, .int v4), (5, .int v5), (6, .int v6)], [.int (v6 - (1 : Int32)), .ref 54, .int v6, .ref 54], LAY, (aA (aA (aA (aA S 50 (upd (S.2.2 50) v6.toNatClampNeg ((S.2.2 50) (v6 - (1 : Int32)).toNatClampNeg))) 51 (upd (S.2.2 51) v6.toNatClampNeg ((S.2.2 51) (v6 - (1 : Int32)).toNatClampNeg))) 52 (upd (S.2.2 52) v6.toNatClampNeg ((S.2.2 52) (v6 - (1 : Int32)).toNatClampNeg))) 53 (upd (S.2.2 53) v6.toNatClampNeg ((S.2.2 53) (v6 - (1 : Int32)).toNatClampNeg))))) (by rfl) ?_
            obtain ⟨hin23, hf⟩ := aGdE hf
            refine aIald hC hT rfl (by decide) (by rfl) hin23 ?_
            obtain ⟨hin24, hf⟩ := aGdE hf
            refine aIast hC hT rfl (by decide) (by rfl) hin24 ?_
            refine aRun_ok hC hT 2 (cf' := (12, [(6, .int (v6 + ((-1) : Int32))), (0, .ref 42), (1, .int v1), (2, .int v2), (3, .int v3), (4, .int v4), (5, .int v5)], [], LAY, (aA (aA (aA (aA (aA S 50 (upd (S.2.2 50) v6.toNatClampNeg ((S.2.2 50) (v6 - (1 : Int32)).toNatClampNeg))) 51 (upd (S.2.2 51) v6.toNatClampNeg ((S.2.2 51) (v6 - (1 : Int32)).toNatClampNeg))) 52 (upd (S.2.2 52) v6.toNatClampNeg ((S.2.2 52) (v6 - (1 : Int32)).toNatClampNeg))) 53 (upd (S.2.2 53) v6.toNatClampNeg ((S.2.2 53) (v6 - (1 : Int32)).toNatClampNeg))) 54 (upd (S.2.2 54) v6.toNatClampNeg ((S.2.2 54) (v6 - (1 : Int32)).toNatClampNeg))))) (by rfl) ?_
            refine aLocs [1, 2, 3, 4, 5, 6, 0] (lv' := [(0, .ref 42), (1, .int v1), (2, .int v2), (3, .int v3), (4, .int v4), (5, .int v5), (6, .int (v6 + ((-1) : Int32)))]) rfl ?_
            exact hrec12 v1 v2 v3 v4 v5 (v6 + ((-1) : Int32)) (aA (aA (aA (aA (aA S 50 (upd (S.2.2 50) v6.toNatClampNeg ((S.2.2 50) (v6 - (1 : Int32)).toNatClampNeg))) 51 (upd (S.2.2 51) v6.toNatClampNeg ((S.2.2 51) (v6 - (1 : Int32)).toNatClampNeg))) 52 (upd (S.2.2 52) v6.toNatClampNeg ((S.2.2 52) (v6 - (1 : Int32)).toNatClampNeg))) 53 (upd (S.2.2 53) v6.toNatClampNeg ((S.2.2 53) (v6 - (1 : Int32)).toNatClampNeg))) 54 (upd (S.2.2 54) v6.toNatClampNeg ((S.2.2 54) (v6 - (1 : Int32)).toNatClampNeg))) hf
def X11_add_42_l12 (N : Nat) : Nat → Int32 → Int32 → Int32 → Int32 → Int32 → Int32 → aSt → Option (aSt)
  | 0 => fun _ _ _ _ _ _ _ => none
  | n + 1 => X11_add_42_b12 N (X11_add_42_l12 N n)
theorem X11_add_42_l12_ok {C : aC} {N : Nat} (hC : aCx C M_X11_add) {r : aSt} (hF : aFin C none LAY r 0 0) : ∀ (n : Nat) (v1 : Int32) (v2 : Int32) (v3 : Int32) (v4 : Int32) (v5 : Int32) (v6 : Int32) (S : aSt), X11_add_42_l12 N n v1 v2 v3 v4 v5 v6 S = (some r) → aX C M_X11_add 0 0 (12, [(0, .ref 42), (1, .int v1), (2, .int v2), (3, .int v3), (4, .int v4), (5, .int v5), (6, .int v6)], [], LAY, S)
  | 0, _, _, _, _, _, _, _,  h => nomatch (show (none : Option (aSt)) = some _ from h)
  | n + 1, v1, v2, v3, v4, v5, v6, S,  h => X11_add_42_b12_ok hC hF (fun v1 v2 v3 v4 v5 v6 S h => X11_add_42_l12_ok hC hF n v1 v2 v3 v4 v5 v6 S h) v1 v2 v3 v4 v5 v6 S h
def X11_add_42 (N : Nat) (a1 : Int32) (a2 : Int32) (a3 : Int32) (a4 : Int32) (a5 : Int32) (S : aSt) : Option (aSt) := (if a5 = (0 : Int32) then some (S) else (X11_add_42_l12 N N a1 a2 a3 a4 a5 (S.1 42 23) S))
set_option maxHeartbeats 4000000 in
set_option maxRecDepth 100000 in
theorem J_X11_add_42 (l : Launch) (g : aWg) (N : Nat) (a1 : Int32) (a2 : Int32) (a3 : Int32) (a4 : Int32) (a5 : Int32) (S : aSt) {r : aSt} (hf : X11_add_42 N a1 a2 a3 a4 a5 S = (some r)) : aJ l g yX11_add M_X11_add [.ref 42, .int a1, .int a2, .int a3, .int a4, .int a5] LAY S none LAY r 0 0 := by
  refine aJ_of (by decide +kernel) rfl (Nat.le_of_ble_eq_true rfl) (fun h => nomatch h) ?_
  intro C hg hl hC hz hF
  subst hg; subst hl
  have hT := ok_X11_add
  unfold X11_add_42 at hf
  show aX C M_X11_add 0 0 (0, [(0, .ref 42), (1, .int a1), (2, .int a2), (3, .int a3), (4, .int a4), (5, .int a5)], [], LAY, S)
  refine aRun_ok hC hT 1 (cf' := (2, [(0, .ref 42), (1, .int a1), (2, .int a2), (3, .int a3), (4, .int a4), (5, .int a5)], [.int a5], LAY, S)) (by rfl) ?_
  refine aIf_ne hC hT (tgt := 6) rfl (by decide) (fun hc1 => ?_) (fun hc1 => ?_)
  · have hf := aIfF hf hc1
    refine aRun_ok hC hT 3 (cf' := (12, [(6, .int (S.1 42 23)), (0, .ref 42), (1, .int a1), (2, .int a2), (3, .int a3), (4, .int a4), (5, .int a5)], [], LAY, S)) (by rfl) ?_
    refine aLocs [1, 2, 3, 4, 5, 6, 0] (lv' := [(0, .ref 42), (1, .int a1), (2, .int a2), (3, .int a3), (4, .int a4), (5, .int a5), (6, .int (S.1 42 23))]) rfl ?_
    exact X11_add_42_l12_ok hC hF N a1 a2 a3 a4 a5 (S.1 42 23) S hf
  · have hf := aIfT hf hc1
    have e9 := Option.some.inj hf; subst e9
    exact aRetV hC hT hF rfl rfl
def X11_size (a0 : Int32) : Int32 := (if (0 : Int32) ≤ a0 then a0 else (-a0))
set_option maxHeartbeats 4000000 in
set_option maxRecDepth 100000 in
theorem J_X11_size (l : Launch) (g : aWg) (a0 : Int32) (S : aSt) {r : Int32} (hf : X11_size a0 = r) : aJ l g yX11_size M_X11_size [.int a0] LAY S (some (.int r)) LAY S 0 0 := by
  refine aJ_of (by decide +kernel) rfl (Nat.le_of_ble_eq_true rfl) (fun h => nomatch h) ?_
  intro C hg hl hC hz hF
  subst hg; subst hl
  have hT := ok_X11_size
  unfold X11_size at hf
  show aX C M_X11_size 0 0 (0, [(0, .int a0)], [], LAY, S)
  refine aRun_ok hC hT 1 (cf' := (1, [(0, .int a0)], [.int a0], LAY, S)) (by rfl) ?_
  refine aIf_ge hC hT (tgt := 9) rfl (by decide) (fun hc1 => ?_) (fun hc1 => ?_)
  · have hf := aIfT hf hc1
    refine aRun_ok hC hT 1 (cf' := (10, [(0, .int a0)], [.int a0], LAY, S)) (by rfl) ?_
    subst hf
    exact aRetI hC hT hF rfl rfl
  · have hf := aIfF hf hc1
    refine aRun_ok hC hT 3 (cf' := (10, [(0, .int a0)], [.int (-a0)], LAY, S)) (by rfl) ?_
    subst hf
    exact aRetI hC hT hF rfl rfl
def X11_changeBy_42 (N : Nat) (a1 : Int32) (a2 : Int32) (S : aSt) : Option (Int32) := (if aIx ((5 : Int32) * a1) 150 = true then (if ((S.2.2 45) ((5 : Int32) * a1).toNatClampNeg) = (0 : Int32) then (if aIx (((5 : Int32) * a1) + (1 : Int32)) 150 = true then some ((a2 - ((S.2.2 45) (((5 : Int32) * a1) + (1 : Int32)).toNatClampNeg))) else none) else (if aIx (((5 : Int32) * a1) + (1 : Int32)) 150 = true then some ((((S.2.2 45) (((5 : Int32) * a1) + (1 : Int32)).toNatClampNeg) - a2)) else none)) else none)
set_option maxHeartbeats 4000000 in
set_option maxRecDepth 100000 in
theorem J_X11_changeBy_42 (l : Launch) (g : aWg) (N : Nat) (a1 : Int32) (a2 : Int32) (S : aSt) {r : Int32} (hf : X11_changeBy_42 N a1 a2 S = (some r)) : aJ l g yX11_changeBy M_X11_changeBy [.ref 42, .int a1, .int a2] LAY S (some (.int r)) LAY S 0 0 := by
  refine aJ_of (by decide +kernel) rfl (Nat.le_of_ble_eq_true rfl) (fun h => nomatch h) ?_
  intro C hg hl hC hz hF
  subst hg; subst hl
  have hT := ok_X11_changeBy
  unfold X11_changeBy_42 at hf
  show aX C M_X11_changeBy 0 0 (0, [(0, .ref 42), (1, .int a1), (2, .int a2)], [], LAY, S)
  refine aRun_ok hC hT 5 (cf' := (7, [(0, .ref 42), (1, .int a1), (2, .int a2)], [.int ((5 : Int32) * a1), .ref 45], LAY, S)) (by rfl) ?_
  obtain ⟨hin1, hf⟩ := aGdE hf
  refine aIald hC hT rfl (by decide) (by rfl) hin1 ?_
  refine aIf_ne hC hT (tgt := 26) rfl (by decide) (fun hc2 => ?_) (fun hc2 => ?_)
  · have hf := aIfF hf hc2
    refine aRun_ok hC hT 7 (cf' := (35, [(0, .ref 42), (1, .int a1), (2, .int a2)], [.int (((5 : Int32) * a1) + (1 : Int32)), .ref 45], LAY, S)) (by rfl) ?_
    obtain ⟨hin3, hf⟩ := aGdE hf
    refine aIald hC hT rfl (by decide) (by rfl) hin3 ?_
    refine aRun_ok hC hT 2 (cf' := (38, [(0, .ref 42), (1, .int a1), (2, .int a2)], [.int (((S.2.2 45) (((5 : Int32) * a1) + (1 : Int32)).toNatClampNeg) - a2)], LAY, S)) (by rfl) ?_
    have e9 := Option.some.inj hf; subst e9
    exact aRetI hC hT hF rfl rfl
  · have hf := aIfT hf hc2
    refine aRun_ok hC hT 8 (cf' := (21, [(0, .ref 42), (1, .int a1), (2, .int a2)], [.int (((5 : Int32) * a1) + (1 : Int32)), .ref 45, .int a2], LAY, S)) (by rfl) ?_
    obtain ⟨hin4, hf⟩ := aGdE hf
    refine aIald hC hT rfl (by decide) (by rfl) hin4 ?_
    refine aRun_ok hC hT 2 (cf' := (38, [(0, .ref 42), (1, .int a1), (2, .int a2)], [.int (a2 - ((S.2.2 45) (((5 : Int32) * a1) + (1 : Int32)).toNatClampNeg))], LAY, S)) (by rfl) ?_
    have e9 := Option.some.inj hf; subst e9
    exact aRetI hC hT hF rfl rfl
def X11_isTwice_42_b83 (N : Nat) (S : aSt) (rec4 : Int32 → Int32 → Int32 → Option (Int32)) (v1 : Int32) (v3 : Int32) (s0 : Int32) : Option (Int32) := (rec4 v1 s0 (v3 + (1 : Int32)))
set_option maxHeartbeats 4000000 in
set_option maxRecDepth 100000 in
theorem X11_isTwice_42_b83_ok {C : aC} {N : Nat} {S : aSt} {rec4 : Int32 → Int32 → Int32 → Option (Int32)} (hC : aCx C M_X11_isTwice) {r : Int32} (hF : aFin C (some (.int r)) LAY S 0 0) (hrec4 : ∀ (v1 : Int32) (v2 : Int32) (v3 : Int32), rec4 v1 v2 v3 = (some r) → aX C M_X11_isTwice 0 0 (4, [(0, .ref 42), (1, .int v1), (2, .int v2), (3, .int v3)], [], LAY, S)) (v1 : Int32) (v3 : Int32) (s0 : Int32) (hf : X11_isTwice_42_b83 N S rec4 v1 v3 s0 = (some r)) : aX C M_X11_isTwice 0 0 (83, [(0, .ref 42), (1, .int v1), (3, .int v3)], [.int s0], LAY, S) := by
  have hT := ok_X11_isTwice
  unfold X11_isTwice_42_b83 at hf
  refine aRun_ok hC hT 3 (cf' := (4, [(3, .int (v3 + (1 : Int32))), (2, .int s0), (0, .ref 42), (1, .int v1)], [], LAY, S)) (by rfl) ?_
  refine aLocs [2, 3, 1, 0] (lv' := [(0, .ref 42), (1, .int v1), (2, .int s0), (3, .int (v3 + (1 : Int32)))]) rfl ?_
  exact hrec4 v1 s0 (v3 + (1 : Int32)) hf
def X11_isTwice_42_b78 (N : Nat) (S : aSt) (rec4 : Int32 → Int32 → Int32 → Option (Int32)) (v1 : Int32) (v3 : Int32) : Option (Int32) := (X11_isTwice_42_b83 N S rec4 v1 v3 (1 : Int32))
set_option maxHeartbeats 4000000 in
set_option maxRecDepth 100000 in
theorem X11_isTwice_42_b78_ok {C : aC} {N : Nat} {S : aSt} {rec4 : Int32 → Int32 → Int32 → Option (Int32)} (hC : aCx C M_X11_isTwice) {r : Int32} (hF : aFin C (some (.int r)) LAY S 0 0) (hrec4 : ∀ (v1 : Int32) (v2 : Int32) (v3 : Int32), rec4 v1 v2 v3 = (some r) → aX C M_X11_isTwice 0 0 (4, [(0, .ref 42), (1, .int v1), (2, .int v2), (3, .int v3)], [], LAY, S)) (v1 : Int32) (v3 : Int32) (hf : X11_isTwice_42_b78 N S rec4 v1 v3 = (some r)) : aX C M_X11_isTwice 0 0 (78, [(0, .ref 42), (1, .int v1), (3, .int v3)], [], LAY, S) := by
  have hT := ok_X11_isTwice
  unfold X11_isTwice_42_b78 at hf
  refine aRun_ok hC hT 2 (cf' := (83, [(0, .ref 42), (1, .int v1), (3, .int v3)], [.int (1 : Int32)], LAY, S)) (by rfl) ?_
  exact X11_isTwice_42_b83_ok hC hF hrec4 v1 v3 (1 : Int32) hf
def X11_isTwice_42_b82 (N : Nat) (S : aSt) (rec4 : Int32 → Int32 → Int32 → Option (Int32)) (v1 : Int32) (v3 : Int32) : Option (Int32) := (X11_isTwice_42_b83 N S rec4 v1 v3 (0 : Int32))
set_option maxHeartbeats 4000000 in
set_option maxRecDepth 100000 in
theorem X11_isTwice_42_b82_ok {C : aC} {N : Nat} {S : aSt} {rec4 : Int32 → Int32 → Int32 → Option (Int32)} (hC : aCx C M_X11_isTwice) {r : Int32} (hF : aFin C (some (.int r)) LAY S 0 0) (hrec4 : ∀ (v1 : Int32) (v2 : Int32) (v3 : Int32), rec4 v1 v2 v3 = (some r) → aX C M_X11_isTwice 0 0 (4, [(0, .ref 42), (1, .int v1), (2, .int v2), (3, .int v3)], [], LAY, S)) (v1 : Int32) (v3 : Int32) (hf : X11_isTwice_42_b82 N S rec4 v1 v3 = (some r)) : aX C M_X11_isTwice 0 0 (82, [(0, .ref 42), (1, .int v1), (3, .int v3)], [], LAY, S) := by
  have hT := ok_X11_isTwice
  unfold X11_isTwice_42_b82 at hf
  refine aRun_ok hC hT 1 (cf' := (83, [(0, .ref 42), (1, .int v1), (3, .int v3)], [.int (0 : Int32)], LAY, S)) (by rfl) ?_
  exact X11_isTwice_42_b83_ok hC hF hrec4 v1 v3 (0 : Int32) hf
def X11_isTwice_42_b4 (N : Nat) (S : aSt) (rec4 : Int32 → Int32 → Int32 → Option (Int32)) (v1 : Int32) (v2 : Int32) (v3 : Int32) : Option (Int32) := (if v1 ≤ v3 then (if v2 = 0 ∨ v2 = 1 then some (v2) else none) else (if v2 = (0 : Int32) then (if aIx ((5 : Int32) * v3) 150 = true then (if aIx ((5 : Int32) * v1) 150 = true then (if ((S.2.2 45) ((5 : Int32) * v3).toNatClampNeg) = ((S.2.2 45) ((5 : Int32) * v1).toNatClampNeg) then (if aIx (((5 : Int32) * v3) + (1 : Int32)) 150 = true then (if aIx (((5 : Int32) * v1) + (1 : Int32)) 150 = true then (if ((S.2.2 45) (((5 : Int32) * v3) + (1 : Int32)).toNatClampNeg) = ((S.2.2 45) (((5 : Int32) * v1) + (1 : Int32)).toNatClampNeg) then (if aIx (((5 : Int32) * v3) + (2 : Int32)) 150 = true then (if aIx (((5 : Int32) * v1) + (2 : Int32)) 150 = true then (if ((S.2.2 45) (((5 : Int32) * v3) + (2 : Int32)).toNatClampNeg) = ((S.2.2 45) (((5 : Int32) * v1) + (2 : Int32)).toNatClampNeg) then (X11_isTwice_42_b78 N S rec4 v1 v3) else (X11_isTwice_42_b82 N S rec4 v1 v3)) else none) else none) else (X11_isTwice_42_b82 N S rec4 v1 v3)) else none) else none) else (X11_isTwice_42_b82 N S rec4 v1 v3)) else none) else none) else (X11_isTwice_42_b78 N S rec4 v1 v3)))
set_option maxHeartbeats 4000000 in
set_option maxRecDepth 100000 in
theorem X11_isTwice_42_b4_ok {C : aC} {N : Nat} {S : aSt} {rec4 : Int32 → Int32 → Int32 → Option (Int32)} (hC : aCx C M_X11_isTwice) {r : Int32} (hF : aFin C (some (.int r)) LAY S 0 0) (hrec4 : ∀ (v1 : Int32) (v2 : Int32) (v3 : Int32), rec4 v1 v2 v3 = (some r) → aX C M_X11_isTwice 0 0 (4, [(0, .ref 42), (1, .int v1), (2, .int v2), (3, .int v3)], [], LAY, S)) (v1 : Int32) (v2 : Int32) (v3 : Int32) (hf : X11_isTwice_42_b4 N S rec4 v1 v2 v3 = (some r)) : aX C M_X11_isTwice 0 0 (4, [(0, .ref 42), (1, .int v1), (2, .int v2), (3, .int v3)], [], LAY, S) := by
  have hT := ok_X11_isTwice
  unfold X11_isTwice_42_b4 at hf
  refine aRun_ok hC hT 2 (cf' := (6, [(0, .ref 42), (1, .int v1), (2, .int v2), (3, .int v3)], [.int v1, .int v3], LAY, S)) (by rfl) ?_
  refine aCmp_ge hC hT (tgt := 90) rfl (by decide) (fun hc1 => ?_) (fun hc1 => ?_)
  · have hf := aIfT hf hc1
    refine aRun_ok hC hT 1 (cf' := (91, [(0, .ref 42), (1, .int v1), (2, .int v2), (3, .int v3)], [.int v2], LAY, S)) (by rfl) ?_
    obtain ⟨hb2, hf⟩ := aGdE hf
    have e9 := Option.some.inj hf; subst e9
    exact aRetB hC hT hF rfl hb2 rfl
  · have hf := aIfF hf hc1
    refine aRun_ok hC hT 1 (cf' := (10, [(0, .ref 42), (1, .int v1), (2, .int v2), (3, .int v3)], [.int v2], LAY, S)) (by rfl) ?_
    refine aIf_ne hC hT (tgt := 78) rfl (by decide) (fun hc3 => ?_) (fun hc3 => ?_)
    · have hf := aIfF hf hc3
      refine aLocs [0, 1, 3] (lv' := [(0, .ref 42), (1, .int v1), (3, .int v3)]) rfl ?_
      exact X11_isTwice_42_b78_ok hC hF hrec4 v1 v3 hf
    · have hf := aIfT hf hc3
      refine aRun_ok hC hT 5 (cf' := (20, [(0, .ref 42), (1, .int v1), (2, .int v2), (3, .int v3)], [.int ((5 : Int32) * v3), .ref 45], LAY, S)) (by rfl) ?_
      obtain ⟨hin4, hf⟩ := aGdE hf
      refine aIald hC hT rfl (by decide) (by rfl) hin4 ?_
      refine aRun_ok hC hT 5 (cf' := (28, [(0, .ref 42), (1, .int v1), (2, .int v2), (3, .int v3)], [.int ((5 : Int32) * v1), .ref 45, .int ((S.2.2 45) ((5 : Int32) * v3).toNatClampNeg)], LAY, S)) (by rfl) ?_
      obtain ⟨hin5, hf⟩ := aGdE hf
      refine aIald hC hT rfl (by decide) (by rfl) hin5 ?_
      refine aCmp_ne hC hT (tgt := 82) rfl (by decide) (fun hc6 => ?_) (fun hc6 => ?_)
      · have hf := aIfF hf hc6
        refine aLocs [0, 1, 3] (lv' := [(0, .ref 42), (1, .int v1), (3, .int v3)]) rfl ?_
        exact X11_isTwice_42_b82_ok hC hF hrec4 v1 v3 hf
      · have hf := aIfT hf hc6
        refine aRun_ok hC hT 7 (cf' := (41, [(0, .ref 42), (1, .int v1), (2, .int v2), (3, .int v3)], [.int (((5 : Int32) * v3) + (1 : Int32)), .ref 45], LAY, S)) (by rfl) ?_
        obtain ⟨hin7, hf⟩ := aGdE hf
        refine aIald hC hT rfl (by decide) (by rfl) hin7 ?_
        refine aRun_ok hC hT 7 (cf' := (51, [(0, .ref 42), (1, .int v1), (2, .int v2), (3, .int v3)], [.int (((5 : Int32) * v1) + (1 : Int32)), .ref 45, .int ((S.2.2 45) (((5 : Int32) * v3) + (1 : Int32)).toNatClampNeg)], LAY, S)) (by rfl) ?_
        obtain ⟨hin8, hf⟩ := aGdE hf
        refine aIald hC hT rfl (by decide) (by rfl) hin8 ?_
        refine aCmp_ne hC hT (tgt := 82) rfl (by decide) (fun hc9 => ?_) (fun hc9 => ?_)
        · have hf := aIfF hf hc9
          refine aLocs [0, 1, 3] (lv' := [(0, .ref 42), (1, .int v1), (3, .int v3)]) rfl ?_
          exact X11_isTwice_42_b82_ok hC hF hrec4 v1 v3 hf
        · have hf := aIfT hf hc9
          refine aRun_ok hC hT 7 (cf' := (64, [(0, .ref 42), (1, .int v1), (2, .int v2), (3, .int v3)], [.int (((5 : Int32) * v3) + (2 : Int32)), .ref 45], LAY, S)) (by rfl) ?_
          obtain ⟨hin10, hf⟩ := aGdE hf
          refine aIald hC hT rfl (by decide) (by rfl) hin10 ?_
          refine aRun_ok hC hT 7 (cf' := (74, [(0, .ref 42), (1, .int v1), (2, .int v2), (3, .int v3)], [.int (((5 : Int32) * v1) + (2 : Int32)), .ref 45, .int ((S.2.2 45) (((5 : Int32) * v3) + (2 : Int32)).toNatClampNeg)], LAY, S)) (by rfl) ?_
          obtain ⟨hin11, hf⟩ := aGdE hf
          refine aIald hC hT rfl (by decide) (by rfl) hin11 ?_
          refine aCmp_ne hC hT (tgt := 82) rfl (by decide) (fun hc12 => ?_) (fun hc12 => ?_)
          · have hf := aIfF hf hc12
            refine aLocs [0, 1, 3] (lv' := [(0, .ref 42), (1, .int v1), (3, .int v3)]) rfl ?_
            exact X11_isTwice_42_b82_ok hC hF hrec4 v1 v3 hf
          · have hf := aIfT hf hc12
            refine aLocs [0, 1, 3] (lv' := [(0, .ref 42), (1, .int v1), (3, .int v3)]) rfl ?_
            exact X11_isTwice_42_b78_ok hC hF hrec4 v1 v3 hf
def X11_isTwice_42_l4 (N : Nat) (S : aSt) : Nat → Int32 → Int32 → Int32 → Option (Int32)
  | 0 => fun _ _ _ => none
  | n + 1 => X11_isTwice_42_b4 N S (X11_isTwice_42_l4 N S n)
theorem X11_isTwice_42_l4_ok {C : aC} {N : Nat} {S : aSt} (hC : aCx C M_X11_isTwice) {r : Int32} (hF : aFin C (some (.int r)) LAY S 0 0) : ∀ (n : Nat) (v1 : Int32) (v2 : Int32) (v3 : Int32), X11_isTwice_42_l4 N S n v1 v2 v3 = (some r) → aX C M_X11_isTwice 0 0 (4, [(0, .ref 42), (1, .int v1), (2, .int v2), (3, .int v3)], [], LAY, S)
  | 0, _, _, _,  h => nomatch (show (none : Option (Int32)) = some _ from h)
  | n + 1, v1, v2, v3,  h => X11_isTwice_42_b4_ok hC hF (fun v1 v2 v3 h => X11_isTwice_42_l4_ok hC hF n v1 v2 v3 h) v1 v2 v3 h
def X11_isTwice_42 (N : Nat) (a1 : Int32) (S : aSt) : Option (Int32) := (X11_isTwice_42_l4 N S N a1 (0 : Int32) (0 : Int32))
set_option maxHeartbeats 4000000 in
set_option maxRecDepth 100000 in
theorem J_X11_isTwice_42 (l : Launch) (g : aWg) (N : Nat) (a1 : Int32) (S : aSt) {r : Int32} (hf : X11_isTwice_42 N a1 S = (some r)) : aJ l g yX11_isTwice M_X11_isTwice [.ref 42, .int a1] LAY S (some (.int r)) LAY S 0 0 := by
  refine aJ_of (by decide +kernel) rfl (Nat.le_of_ble_eq_true rfl) (fun h => nomatch h) ?_
  intro C hg hl hC hz hF
  subst hg; subst hl
  have hT := ok_X11_isTwice
  unfold X11_isTwice_42 at hf
  show aX C M_X11_isTwice 0 0 (0, [(0, .ref 42), (1, .int a1)], [], LAY, S)
  refine aRun_ok hC hT 4 (cf' := (4, [(3, .int (0 : Int32)), (2, .int (0 : Int32)), (0, .ref 42), (1, .int a1)], [], LAY, S)) (by rfl) ?_
  refine aLocs [2, 3, 1, 0] (lv' := [(0, .ref 42), (1, .int a1), (2, .int (0 : Int32)), (3, .int (0 : Int32))]) rfl ?_
  exact X11_isTwice_42_l4_ok hC hF N a1 (0 : Int32) (0 : Int32) hf
def X11_oddsOf_42 (N : Nat) (a1 : Int32) (a2 : Int32) (S : aSt) : Option (Int32) := (if aIx (((5 : Int32) * a1) + (3 : Int32)) 150 = true then (if aIx (((5 : Int32) * ((S.2.2 45) (((5 : Int32) * a1) + (3 : Int32)).toNatClampNeg)) + a2) 20 = true then some (((S.2.2 47) (((5 : Int32) * ((S.2.2 45) (((5 : Int32) * a1) + (3 : Int32)).toNatClampNeg)) + a2).toNatClampNeg)) else none) else none)
set_option maxHeartbeats 4000000 in
set_option maxRecDepth 100000 in
theorem J_X11_oddsOf_42 (l : Launch) (g : aWg) (N : Nat) (a1 : Int32) (a2 : Int32) (S : aSt) {r : Int32} (hf : X11_oddsOf_42 N a1 a2 S = (some r)) : aJ l g yX11_oddsOf M_X11_oddsOf [.ref 42, .int a1, .int a2] LAY S (some (.int r)) LAY S 0 0 := by
  refine aJ_of (by decide +kernel) rfl (Nat.le_of_ble_eq_true rfl) (fun h => nomatch h) ?_
  intro C hg hl hC hz hF
  subst hg; subst hl
  have hT := ok_X11_oddsOf
  unfold X11_oddsOf_42 at hf
  show aX C M_X11_oddsOf 0 0 (0, [(0, .ref 42), (1, .int a1), (2, .int a2)], [], LAY, S)
  refine aRun_ok hC hT 10 (cf' := (14, [(0, .ref 42), (1, .int a1), (2, .int a2)], [.int (((5 : Int32) * a1) + (3 : Int32)), .ref 45, .int (5 : Int32), .ref 47], LAY, S)) (by rfl) ?_
  obtain ⟨hin1, hf⟩ := aGdE hf
  refine aIald hC hT rfl (by decide) (by rfl) hin1 ?_
  refine aRun_ok hC hT 3 (cf' := (18, [(0, .ref 42), (1, .int a1), (2, .int a2)], [.int (((5 : Int32) * ((S.2.2 45) (((5 : Int32) * a1) + (3 : Int32)).toNatClampNeg)) + a2), .ref 47], LAY, S)) (by rfl) ?_
  obtain ⟨hin2, hf⟩ := aGdE hf
  refine aIald hC hT rfl (by decide) (by rfl) hin2 ?_
  have e9 := Option.some.inj hf; subst e9
  exact aRetI hC hT hF rfl rfl
def X11_figures_b7 (N : Nat) (rec7 : Int32 → Int32 → Option (Int32)) (v1 : Int32) (v2 : Int32) : Option (Int32) := (if v2 ≤ (0 : Int32) then some (v1) else (rec7 (v1 + (1 : Int32)) (v2 / (10 : Int32))))
set_option maxHeartbeats 4000000 in
set_option maxRecDepth 100000 in
theorem X11_figures_b7_ok {C : aC} {N : Nat} {S : aSt} {rec7 : Int32 → Int32 → Option (Int32)} (hC : aCx C M_X11_figures) {r : Int32} (hF : aFin C (some (.int r)) LAY S 0 0) (hrec7 : ∀ (v1 : Int32) (v2 : Int32), rec7 v1 v2 = (some r) → aX C M_X11_figures 0 0 (7, [(1, .int v1), (2, .int v2)], [], LAY, S)) (v1 : Int32) (v2 : Int32) (hf : X11_figures_b7 N rec7 v1 v2 = (some r)) : aX C M_X11_figures 0 0 (7, [(1, .int v1), (2, .int v2)], [], LAY, S) := by
  have hT := ok_X11_figures
  unfold X11_figures_b7 at hf
  refine aRun_ok hC hT 1 (cf' := (8, [(1, .int v1), (2, .int v2)], [.int v2], LAY, S)) (by rfl) ?_
  refine aIf_le hC hT (tgt := 22) rfl (by decide) (fun hc1 => ?_) (fun hc1 => ?_)
  · have hf := aIfT hf hc1
    refine aRun_ok hC hT 1 (cf' := (23, [(1, .int v1), (2, .int v2)], [.int v1], LAY, S)) (by rfl) ?_
    have e9 := Option.some.inj hf; subst e9
    exact aRetI hC hT hF rfl rfl
  · have hf := aIfF hf hc1
    refine aRun_ok hC hT 6 (cf' := (7, [(1, .int (v1 + (1 : Int32))), (2, .int (v2 / (10 : Int32)))], [], LAY, S)) (by rfl) ?_
    exact hrec7 (v1 + (1 : Int32)) (v2 / (10 : Int32)) hf
def X11_figures_l7 (N : Nat) : Nat → Int32 → Int32 → Option (Int32)
  | 0 => fun _ _ => none
  | n + 1 => X11_figures_b7 N (X11_figures_l7 N n)
theorem X11_figures_l7_ok {C : aC} {N : Nat} {S : aSt} (hC : aCx C M_X11_figures) {r : Int32} (hF : aFin C (some (.int r)) LAY S 0 0) : ∀ (n : Nat) (v1 : Int32) (v2 : Int32), X11_figures_l7 N n v1 v2 = (some r) → aX C M_X11_figures 0 0 (7, [(1, .int v1), (2, .int v2)], [], LAY, S)
  | 0, _, _,  h => nomatch (show (none : Option (Int32)) = some _ from h)
  | n + 1, v1, v2,  h => X11_figures_b7_ok hC hF (fun v1 v2 h => X11_figures_l7_ok hC hF n v1 v2 h) v1 v2 h
def X11_figures (N : Nat) (a0 : Int32) : Option (Int32) := (X11_figures_l7 N N (1 : Int32) (a0 / (10 : Int32)))
set_option maxHeartbeats 4000000 in
set_option maxRecDepth 100000 in
theorem J_X11_figures (l : Launch) (g : aWg) (N : Nat) (a0 : Int32) (S : aSt) {r : Int32} (hf : X11_figures N a0 = (some r)) : aJ l g yX11_figures M_X11_figures [.int a0] LAY S (some (.int r)) LAY S 0 0 := by
  refine aJ_of (by decide +kernel) rfl (Nat.le_of_ble_eq_true rfl) (fun h => nomatch h) ?_
  intro C hg hl hC hz hF
  subst hg; subst hl
  have hT := ok_X11_figures
  unfold X11_figures at hf
  show aX C M_X11_figures 0 0 (0, [(0, .int a0)], [], LAY, S)
  refine aRun_ok hC hT 6 (cf' := (7, [(2, .int (a0 / (10 : Int32))), (1, .int (1 : Int32)), (0, .int a0)], [], LAY, S)) (by rfl) ?_
  refine aLocs [1, 0] (lv' := [(1, .int (1 : Int32)), (2, .int (a0 / (10 : Int32)))]) rfl ?_
  exact X11_figures_l7_ok hC hF N (1 : Int32) (a0 / (10 : Int32)) hf
def X11_figure (N : Nat) (a0 : Int32) (a1 : Int32) : Option (Int32) := (Option.bind (X11_power N a1) (fun w1 => (if ¬ w1 = (0 : Int32) then some (((a0 / w1) - (a0 / w1) / (10 : Int32) * (10 : Int32))) else none)))
set_option maxHeartbeats 4000000 in
set_option maxRecDepth 100000 in
theorem J_X11_figure (l : Launch) (g : aWg) (N : Nat) (a0 : Int32) (a1 : Int32) (S : aSt) {r : Int32} (hf : X11_figure N a0 a1 = (some r)) : aJ l g yX11_figure M_X11_figure [.int a0, .int a1] LAY S (some (.int r)) LAY S 0 0 := by
  refine aJ_of (by decide +kernel) rfl (Nat.le_of_ble_eq_true rfl) (fun h => nomatch h) ?_
  intro C hg hl hC hz hF
  subst hg; subst hl
  have hT := ok_X11_figure
  unfold X11_figure at hf
  show aX C M_X11_figure 0 0 (0, [(0, .int a0), (1, .int a1)], [], LAY, S)
  refine aRun_ok hC hT 2 (cf' := (2, [(0, .int a0), (1, .int a1)], [.int a1, .int a0], LAY, S)) (by rfl) ?_
  obtain ⟨w1, ew2, hf⟩ := aBnE hf
  refine aCallS (As := [.int a1]) (rest := [.int a0]) hC hT rfl k_X11_figure_175.1 _ k_X11_figure_175.2 (by rfl) (Nat.le_of_ble_eq_true rfl) (by decide) (J_X11_power C.2.2.1 C.1 N a1 S ew2) ?_
  obtain ⟨hy3, hf⟩ := aGdE hf
  refine aIdiv hC hT rfl hy3 ?_
  refine aRun_ok hC hT 2 (cf' := (9, [(0, .int a0), (1, .int a1)], [.int ((a0 / w1) - (a0 / w1) / (10 : Int32) * (10 : Int32))], LAY, S)) (by rfl) ?_
  have e9 := Option.some.inj hf; subst e9
  exact aRetI hC hT hF rfl rfl
def X11_turned_b49 (N : Nat) (v0 : Int32) (v1 : Int32) (v2 : Int32) (v3 : Int32) : Option (Int32) := (Option.bind (X11_power N (v1 + (1 : Int32))) (fun w10 => (Option.bind (X11_power N v1) (fun w12 => some ((v0 + ((v2 - v3) * (w10 - w12))))))))
set_option maxHeartbeats 4000000 in
set_option maxRecDepth 100000 in
theorem X11_turned_b49_ok {C : aC} {N : Nat} {S : aSt} (hC : aCx C M_X11_turned) {r : Int32} (hF : aFin C (some (.int r)) LAY S 0 0) (v0 : Int32) (v1 : Int32) (v2 : Int32) (v3 : Int32) (hf : X11_turned_b49 N v0 v1 v2 v3 = (some r)) : aX C M_X11_turned 0 0 (49, [(0, .int v0), (1, .int v1), (2, .int v2), (3, .int v3)], [], LAY, S) := by
  have hT := ok_X11_turned
  unfold X11_turned_b49 at hf
  refine aRun_ok hC hT 7 (cf' := (56, [(0, .int v0), (1, .int v1), (2, .int v2), (3, .int v3)], [.int (v1 + (1 : Int32)), .int (v2 - v3), .int v0], LAY, S)) (by rfl) ?_
  obtain ⟨w10, ew11, hf⟩ := aBnE hf
  refine aCallS (As := [.int (v1 + (1 : Int32))]) (rest := [.int (v2 - v3), .int v0]) hC hT rfl k_X11_turned_175.1 _ k_X11_turned_175.2 (by rfl) (Nat.le_of_ble_eq_true rfl) (by decide) (J_X11_power C.2.2.1 C.1 N (v1 + (1 : Int32)) S ew11) ?_
  refine aRun_ok hC hT 1 (cf' := (60, [(0, .int v0), (1, .int v1), (2, .int v2), (3, .int v3)], [.int v1, .int w10, .int (v2 - v3), .int v0], LAY, S)) (by rfl) ?_
  obtain ⟨w12, ew13, hf⟩ := aBnE hf
  refine aCallS (As := [.int v1]) (rest := [.int w10, .int (v2 - v3), .int v0]) hC hT rfl k_X11_turned_175.1 _ k_X11_turned_175.2 (by rfl) (Nat.le_of_ble_eq_true rfl) (by decide) (J_X11_power C.2.2.1 C.1 N v1 S ew13) ?_
  refine aRun_ok hC hT 3 (cf' := (66, [(0, .int v0), (1, .int v1), (2, .int v2), (3, .int v3)], [.int (v0 + ((v2 - v3) * (w10 - w12)))], LAY, S)) (by rfl) ?_
  have e9 := Option.some.inj hf; subst e9
  exact aRetI hC hT hF rfl rfl
def X11_turned_b29 (N : Nat) (v0 : Int32) (v1 : Int32) (v2 : Int32) (v3 : Int32) (s0 : Int32) : Option (Int32) := (if v2 = v3 then some ((0 : Int32)) else (if s0 = (0 : Int32) then (X11_turned_b49 N v0 v1 v2 v3) else (if v2 = (0 : Int32) then some ((0 : Int32)) else (X11_turned_b49 N v0 v1 v2 v3))))
set_option maxHeartbeats 4000000 in
set_option maxRecDepth 100000 in
theorem X11_turned_b29_ok {C : aC} {N : Nat} {S : aSt} (hC : aCx C M_X11_turned) {r : Int32} (hF : aFin C (some (.int r)) LAY S 0 0) (v0 : Int32) (v1 : Int32) (v2 : Int32) (v3 : Int32) (s0 : Int32) (hf : X11_turned_b29 N v0 v1 v2 v3 s0 = (some r)) : aX C M_X11_turned 0 0 (29, [(0, .int v0), (1, .int v1), (2, .int v2), (3, .int v3)], [.int s0], LAY, S) := by
  have hT := ok_X11_turned
  unfold X11_turned_b29 at hf
  refine aRun_ok hC hT 3 (cf' := (33, [(4, .int s0), (0, .int v0), (1, .int v1), (2, .int v2), (3, .int v3)], [.int v3, .int v2], LAY, S)) (by rfl) ?_
  refine aCmp_eq hC hT (tgt := 45) rfl (by decide) (fun hc8 => ?_) (fun hc8 => ?_)
  · have hf := aIfT hf hc8
    refine aRun_ok hC hT 2 (cf' := (66, [(4, .int s0), (0, .int v0), (1, .int v1), (2, .int v2), (3, .int v3)], [.int (0 : Int32)], LAY, S)) (by rfl) ?_
    have e9 := Option.some.inj hf; subst e9
    exact aRetI hC hT hF rfl rfl
  · have hf := aIfF hf hc8
    refine aRun_ok hC hT 1 (cf' := (38, [(4, .int s0), (0, .int v0), (1, .int v1), (2, .int v2), (3, .int v3)], [.int s0], LAY, S)) (by rfl) ?_
    refine aIf_eq hC hT (tgt := 49) rfl (by decide) (fun hc9 => ?_) (fun hc9 => ?_)
    · have hf := aIfT hf hc9
      refine aLocs [1, 2, 3, 4] (lv' := [(0, .int v0), (1, .int v1), (2, .int v2), (3, .int v3)]) rfl ?_
      exact X11_turned_b49_ok hC hF v0 v1 v2 v3 hf
    · have hf := aIfF hf hc9
      refine aRun_ok hC hT 1 (cf' := (42, [(4, .int s0), (0, .int v0), (1, .int v1), (2, .int v2), (3, .int v3)], [.int v2], LAY, S)) (by rfl) ?_
      refine aIf_ne hC hT (tgt := 49) rfl (by decide) (fun hc14 => ?_) (fun hc14 => ?_)
      · have hf := aIfF hf hc14
        refine aLocs [1, 2, 3, 4] (lv' := [(0, .int v0), (1, .int v1), (2, .int v2), (3, .int v3)]) rfl ?_
        exact X11_turned_b49_ok hC hF v0 v1 v2 v3 hf
      · have hf := aIfT hf hc14
        refine aRun_ok hC hT 2 (cf' := (66, [(4, .int s0), (0, .int v0), (1, .int v1), (2, .int v2), (3, .int v3)], [.int (0 : Int32)], LAY, S)) (by rfl) ?_
        have e9 := Option.some.inj hf; subst e9
        exact aRetI hC hT hF rfl rfl
def X11_turned (N : Nat) (a0 : Int32) (a1 : Int32) : Option (Int32) := (Option.bind (X11_figure N a0 a1) (fun w1 => (Option.bind (X11_figure N a0 (a1 + (1 : Int32))) (fun w3 => (Option.bind (X11_figures N a0) (fun w5 => (if (a1 + (2 : Int32)) = w5 then (X11_turned_b29 N a0 a1 w1 w3 (1 : Int32)) else (X11_turned_b29 N a0 a1 w1 w3 (0 : Int32)))))))))
set_option maxHeartbeats 4000000 in
set_option maxRecDepth 100000 in
theorem J_X11_turned (l : Launch) (g : aWg) (N : Nat) (a0 : Int32) (a1 : Int32) (S : aSt) {r : Int32} (hf : X11_turned N a0 a1 = (some r)) : aJ l g yX11_turned M_X11_turned [.int a0, .int a1] LAY S (some (.int r)) LAY S 0 0 := by
  refine aJ_of (by decide +kernel) rfl (Nat.le_of_ble_eq_true rfl) (fun h => nomatch h) ?_
  intro C hg hl hC hz hF
  subst hg; subst hl
  have hT := ok_X11_turned
  unfold X11_turned at hf
  show aX C M_X11_turned 0 0 (0, [(0, .int a0), (1, .int a1)], [], LAY, S)
  refine aRun_ok hC hT 2 (cf' := (2, [(0, .int a0), (1, .int a1)], [.int a1, .int a0], LAY, S)) (by rfl) ?_
  obtain ⟨w1, ew2, hf⟩ := aBnE hf
  refine aCallS (As := [.int a0, .int a1]) (rest := []) hC hT rfl k_X11_turned_178.1 _ k_X11_turned_178.2 (by rfl) (Nat.le_of_ble_eq_true rfl) (by decide) (J_X11_figure C.2.2.1 C.1 N a0 a1 S ew2) ?_
  refine aRun_ok hC hT 5 (cf' := (10, [(2, .int w1), (0, .int a0), (1, .int a1)], [.int (a1 + (1 : Int32)), .int a0], LAY, S)) (by rfl) ?_
  obtain ⟨w3, ew4, hf⟩ := aBnE hf
  refine aCallS (As := [.int a0, .int (a1 + (1 : Int32))]) (rest := []) hC hT rfl k_X11_turned_178.1 _ k_X11_turned_178.2 (by rfl) (Nat.le_of_ble_eq_true rfl) (by decide) (J_X11_figure C.2.2.1 C.1 N a0 (a1 + (1 : Int32)) S ew4) ?_
  refine aRun_ok hC hT 5 (cf' := (18, [(3, .int w3), (2, .int w1), (0, .int a0), (1, .int a1)], [.int a0, .int (a1 + (2 : Int32))], LAY, S)) (by rfl) ?_
  obtain ⟨w5, ew6, hf⟩ := aBnE hf
  refine aCallS (As := [.int a0]) (rest := [.int (a1 + (2 : Int32))]) hC hT rfl k_X11_turned_182.1 _ k_X11_turned_182.2 (by rfl) (Nat.le_of_ble_eq_true rfl) (by decide) (J_X11_figures C.2.2.1 C.1 N a0 S ew6) ?_
  refine aCmp_ne hC hT (tgt := 28) rfl (by decide) (fun hc7 => ?_) (fun hc7 => ?_)
  · have hf := aIfF hf hc7
    refine aRun_ok hC hT 1 (cf' := (29, [(3, .int w3), (2, .int w1), (0, .int a0), (1, .int a1)], [.int (0 : Int32)], LAY, S)) (by rfl) ?_
    refine aLocs [2, 3, 1, 0] (lv' := [(0, .int a0), (1, .int a1), (2, .int w1), (3, .int w3)]) rfl ?_
    exact X11_turned_b29_ok hC hF a0 a1 w1 w3 (0 : Int32) hf
  · have hf := aIfT hf hc7
    refine aRun_ok hC hT 2 (cf' := (29, [(3, .int w3), (2, .int w1), (0, .int a0), (1, .int a1)], [.int (1 : Int32)], LAY, S)) (by rfl) ?_
    refine aLocs [2, 3, 1, 0] (lv' := [(0, .int a0), (1, .int a1), (2, .int w1), (3, .int w3)]) rfl ?_
    exact X11_turned_b29_ok hC hF a0 a1 w1 w3 (1 : Int32) hf
def X11_layFigures_42_b114 (N : Nat) (rec13 : Int32 → Int32 → Int32 → aSt → Option (aSt)) (v1 : Int32) (v2 : Int32) (v3 : Int32) (S : aSt) : Option (aSt) := (rec13 v1 v2 (v3 + (1 : Int32)) S)
set_option maxHeartbeats 4000000 in
set_option maxRecDepth 100000 in
theorem X11_layFigures_42_b114_ok {C : aC} {N : Nat} {rec13 : Int32 → Int32 → Int32 → aSt → Option (aSt)} (hC : aCx C M_X11_layFigures) {r : aSt} (hF : aFin C none LAY r 0 0) (hrec13 : ∀ (v1 : Int32) (v2 : Int32) (v3 : Int32) (S : aSt), rec13 v1 v2 v3 S = (some r) → aX C M_X11_layFigures 0 0 (13, [(0, .ref 42), (1, .int v1), (2, .int v2), (3, .int v3)], [], LAY, S)) (v1 : Int32) (v2 : Int32) (v3 : Int32) (S : aSt) (hf : X11_layFigures_42_b114 N rec13 v1 v2 v3 S = (some r)) : aX C M_X11_layFigures 0 0 (114, [(0, .ref 42), (1, .int v1), (2, .int v2), (3, .int v3)], [], LAY, S) := by
  have hT := ok_X11_layFigures
  unfold X11_layFigures_42_b114 at hf
  refine aRun_ok hC hT 2 (cf' := (13, [(3, .int (v3 + (1 : Int32))), (0, .ref 42), (1, .int v1), (2, .int v2)], [], LAY, S)) (by rfl) ?_
  refine aLocs [1, 2, 3, 0] (lv' := [(0, .ref 42), (1, .int v1), (2, .int v2), (3, .int (v3 + (1 : Int32)))]) rfl ?_
  exact hrec13 v1 v2 (v3 + (1 : Int32)) S hf
def X11_layFigures_42_b108 (N : Nat) (rec13 : Int32 → Int32 → Int32 → aSt → Option (aSt)) (rec45 : Int32 → Int32 → Int32 → Int32 → Int32 → aSt → Option (aSt)) (v1 : Int32) (v2 : Int32) (v3 : Int32) (v4 : Int32) (v5 : Int32) (S : aSt) : Option (aSt) := (rec45 v1 v2 v3 v4 (v5 + (1 : Int32)) S)
set_option maxHeartbeats 4000000 in
set_option maxRecDepth 100000 in
theorem X11_layFigures_42_b108_ok {C : aC} {N : Nat} {rec13 : Int32 → Int32 → Int32 → aSt → Option (aSt)} {rec45 : Int32 → Int32 → Int32 → Int32 → Int32 → aSt → Option (aSt)} (hC : aCx C M_X11_layFigures) {r : aSt} (hF : aFin C none LAY r 0 0) (hrec13 : ∀ (v1 : Int32) (v2 : Int32) (v3 : Int32) (S : aSt), rec13 v1 v2 v3 S = (some r) → aX C M_X11_layFigures 0 0 (13, [(0, .ref 42), (1, .int v1), (2, .int v2), (3, .int v3)], [], LAY, S)) (hrec45 : ∀ (v1 : Int32) (v2 : Int32) (v3 : Int32) (v4 : Int32) (v5 : Int32) (S : aSt), rec45 v1 v2 v3 v4 v5 S = (some r) → aX C M_X11_layFigures 0 0 (45, [(0, .ref 42), (1, .int v1), (2, .int v2), (3, .int v3), (4, .int v4), (5, .int v5)], [], LAY, S)) (v1 : Int32) (v2 : Int32) (v3 : Int32) (v4 : Int32) (v5 : Int32) (S : aSt) (hf : X11_layFigures_42_b108 N rec13 rec45 v1 v2 v3 v4 v5 S = (some r)) : aX C M_X11_layFigures 0 0 (108, [(0, .ref 42), (1, .int v1), (2, .int v2), (3, .int v3), (4, .int v4), (5, .int v5)], [], LAY, S) := by
  have hT := ok_X11_layFigures
  unfold X11_layFigures_42_b108 at hf
  refine aRun_ok hC hT 2 (cf' := (45, [(5, .int (v5 + (1 : Int32))), (0, .ref 42), (1, .int v1), (2, .int v2), (3, .int v3), (4, .int v4)], [], LAY, S)) (by rfl) ?_
  refine aLocs [1, 2, 3, 4, 5, 0] (lv' := [(0, .ref 42), (1, .int v1), (2, .int v2), (3, .int v3), (4, .int v4), (5, .int (v5 + (1 : Int32)))]) rfl ?_
  exact hrec45 v1 v2 v3 v4 (v5 + (1 : Int32)) S hf
def X11_layFigures_42_b45 (N : Nat) (rec13 : Int32 → Int32 → Int32 → aSt → Option (aSt)) (rec45 : Int32 → Int32 → Int32 → Int32 → Int32 → aSt → Option (aSt)) (v1 : Int32) (v2 : Int32) (v3 : Int32) (v4 : Int32) (v5 : Int32) (S : aSt) : Option (aSt) := (if (10 : Int32) ≤ v5 then (X11_layFigures_42_b114 N rec13 v1 v2 v3 S) else (if v5 = v4 then (X11_layFigures_42_b108 N rec13 rec45 v1 v2 v3 v4 v5 S) else (Option.bind (X11_power N v3) (fun w12 => (Option.bind (X11_changeBy_42 N v1 (v2 + ((v5 - v4) * w12)) S) (fun w14 => (Option.bind (X11_oddsOf_42 N v1 (1 : Int32) S) (fun w16 => (if aIx (((10 : Int32) * v5) + v4) 100 = true then (Option.bind (X11_add_42 N (1 : Int32) v1 (v2 + ((v5 - v4) * w12)) w14 (w16 * ((S.2.2 48) (((10 : Int32) * v5) + v4).toNatClampNeg)) S) (fun w19 => (X11_layFigures_42_b108 N rec13 rec45 v1 v2 v3 v4 v5 w19))) else none)))))))))
set_option maxHeartbeats 4000000 in
set_option maxRecDepth 100000 in
theorem X11_layFigures_42_b45_ok {C : aC} {N : Nat} {rec13 : Int32 → Int32 → Int32 → aSt → Option (aSt)} {rec45 : Int32 → Int32 → Int32 → Int32 → Int32 → aSt → Option (aSt)} (hC : aCx C M_X11_layFigures) {r : aSt} (hF : aFin C none LAY r 0 0) (hrec13 : ∀ (v1 : Int32) (v2 : Int32) (v3 : Int32) (S : aSt), rec13 v1 v2 v3 S = (some r) → aX C M_X11_layFigures 0 0 (13, [(0, .ref 42), (1, .int v1), (2, .int v2), (3, .int v3)], [], LAY, S)) (hrec45 : ∀ (v1 : Int32) (v2 : Int32) (v3 : Int32) (v4 : Int32) (v5 : Int32) (S : aSt), rec45 v1 v2 v3 v4 v5 S = (some r) → aX C M_X11_layFigures 0 0 (45, [(0, .ref 42), (1, .int v1), (2, .int v2), (3, .int v3), (4, .int v4), (5, .int v5)], [], LAY, S)) (v1 : Int32) (v2 : Int32) (v3 : Int32) (v4 : Int32) (v5 : Int32) (S : aSt) (hf : X11_layFigures_42_b45 N rec13 rec45 v1 v2 v3 v4 v5 S = (some r)) : aX C M_X11_layFigures 0 0 (45, [(0, .ref 42), (1, .int v1), (2, .int v2), (3, .int v3), (4, .int v4), (5, .int v5)], [], LAY, S) := by
  have hT := ok_X11_layFigures
  unfold X11_layFigures_42_b45 at hf
  refine aRun_ok hC hT 2 (cf' := (49, [(0, .ref 42), (1, .int v1), (2, .int v2), (3, .int v3), (4, .int v4), (5, .int v5)], [.int (10 : Int32), .int v5], LAY, S)) (by rfl) ?_
  refine aCmp_ge hC hT (tgt := 114) rfl (by decide) (fun hc10 => ?_) (fun hc10 => ?_)
  · have hf := aIfT hf hc10
    refine aLocs [0, 1, 2, 3] (lv' := [(0, .ref 42), (1, .int v1), (2, .int v2), (3, .int v3)]) rfl ?_
    exact X11_layFigures_42_b114_ok hC hF hrec13 v1 v2 v3 S hf
  · have hf := aIfF hf hc10
    refine aRun_ok hC hT 2 (cf' := (56, [(0, .ref 42), (1, .int v1), (2, .int v2), (3, .int v3), (4, .int v4), (5, .int v5)], [.int v4, .int v5], LAY, S)) (by rfl) ?_
    refine aCmp_eq hC hT (tgt := 108) rfl (by decide) (fun hc11 => ?_) (fun hc11 => ?_)
    · have hf := aIfT hf hc11
      exact X11_layFigures_42_b108_ok hC hF hrec13 hrec45 v1 v2 v3 v4 v5 S hf
    · have hf := aIfF hf hc11
      refine aRun_ok hC hT 5 (cf' := (66, [(0, .ref 42), (1, .int v1), (2, .int v2), (3, .int v3), (4, .int v4), (5, .int v5)], [.int v3, .int (v5 - v4), .int v2], LAY, S)) (by rfl) ?_
      obtain ⟨w12, ew13, hf⟩ := aBnE hf
      refine aCallS (As := [.int v3]) (rest := [.int (v5 - v4), .int v2]) hC hT rfl k_X11_layFigures_175.1 _ k_X11_layFigures_175.2 (by rfl) (Nat.le_of_ble_eq_true rfl) (by decide) (J_X11_power C.2.2.1 C.1 N v3 S ew13) ?_
      refine aRun_ok hC hT 10 (cf' := (82, [(6, .int (v2 + ((v5 - v4) * w12))), (0, .ref 42), (1, .int v1), (2, .int v2), (3, .int v3), (4, .int v4), (5, .int v5)], [.int (v2 + ((v5 - v4) * w12)), .int v1, .ref 42, .int (v2 + ((v5 - v4) * w12)), .int v1, .int (1 : Int32), .ref 42], LAY, S)) (by rfl) ?_
      obtain ⟨w14, ew15, hf⟩ := aBnE hf
      refine aCallV (b := 42) (As := [.int v1, .int (v2 + ((v5 - v4) * w12))]) (rest := [.int (v2 + ((v5 - v4) * w12)), .int v1, .int (1 : Int32), .ref 42]) hC hT rfl k_X11_layFigures_185.1 _ _ k_X11_layFigures_185.2 (by decide) (by rfl) (by rfl) (by rfl) (Nat.le_of_ble_eq_true rfl) (by decide) (J_X11_changeBy_42 C.2.2.1 C.1 N v1 (v2 + ((v5 - v4) * w12)) S ew15) ?_
      refine aRun_ok hC hT 3 (cf' := (88, [(6, .int (v2 + ((v5 - v4) * w12))), (0, .ref 42), (1, .int v1), (2, .int v2), (3, .int v3), (4, .int v4), (5, .int v5)], [.int (1 : Int32), .int v1, .ref 42, .int w14, .int (v2 + ((v5 - v4) * w12)), .int v1, .int (1 : Int32), .ref 42], LAY, S)) (by rfl) ?_
      obtain ⟨w16, ew17, hf⟩ := aBnE hf
      refine aCallV (b := 42) (As := [.int v1, .int (1 : Int32)]) (rest := [.int w14, .int (v2 + ((v5 - v4) * w12)), .int v1, .int (1 : Int32), .ref 42]) hC hT rfl k_X11_layFigures_188.1 _ _ k_X11_layFigures_188.2 (by decide) (by rfl) (by rfl) (by rfl) (Nat.le_of_ble_eq_true rfl) (by decide) (J_X11_oddsOf_42 C.2.2.1 C.1 N v1 (1 : Int32) S ew17) ?_
      refine aRun_ok hC hT 7 (cf' := (103, [(6, .int (v2 + ((v5 - v4) * w12))), (0, .ref 42), (1, .int v1), (2, .int v2), (3, .int v3), (4, .int v4), (5, .int v5)], [.int (((10 : Int32) * v5) + v4), .ref 48, .int w16, .int w14, .int (v2 + ((v5 - v4) * w12)), .int v1, .int (1 : Int32), .ref 42], LAY, S)) (by rfl) ?_
      obtain ⟨hin18, hf⟩ := aGdE hf
      refine aIald hC hT rfl (by decide) (by rfl) hin18 ?_
      refine aRun_ok hC hT 1 (cf' := (105, [(6, .int (v2 + ((v5 - v4) * w12))), (0, .ref 42), (1, .int v1), (2, .int v2), (3, .int v3), (4, .int v4), (5, .int v5)], [.int (w16 * ((S.2.2 48) (((10 : Int32) * v5) + v4).toNatClampNeg)), .int w14, .int (v2 + ((v5 - v4) * w12)), .int v1, .int (1 : Int32), .ref 42], LAY, S)) (by rfl) ?_
      obtain ⟨w19, ew20, hf⟩ := aBnE hf
      refine aCallV (b := 42) (As := [.int (1 : Int32), .int v1, .int (v2 + ((v5 - v4) * w12)), .int w14, .int (w16 * ((S.2.2 48) (((10 : Int32) * v5) + v4).toNatClampNeg))]) (rest := []) hC hT rfl k_X11_layFigures_191.1 _ _ k_X11_layFigures_191.2 (by decide) (by rfl) (by rfl) (by rfl) (Nat.le_of_ble_eq_true rfl) (by decide) (J_X11_add_42 C.2.2.1 C.1 N (1 : Int32) v1 (v2 + ((v5 - v4) * w12)) w14 (w16 * ((S.2.2 48) (((10 : Int32) * v5) + v4).toNatClampNeg)) S ew20) ?_
      refine aLocs [1, 2, 3, 4, 5, 6] (lv' := [(0, .ref 42), (1, .int v1), (2, .int v2), (3, .int v3), (4, .int v4), (5, .int v5)]) rfl ?_
      exact X11_layFigures_42_b108_ok hC hF hrec13 hrec45 v1 v2 v3 v4 v5 w19 hf
def X11_layFigures_42_l45 (N : Nat) (rec13 : Int32 → Int32 → Int32 → aSt → Option (aSt)) : Nat → Int32 → Int32 → Int32 → Int32 → Int32 → aSt → Option (aSt)
  | 0 => fun _ _ _ _ _ _ => none
  | n + 1 => X11_layFigures_42_b45 N rec13 (X11_layFigures_42_l45 N rec13 n)
theorem X11_layFigures_42_l45_ok {C : aC} {N : Nat} {rec13 : Int32 → Int32 → Int32 → aSt → Option (aSt)} (hC : aCx C M_X11_layFigures) {r : aSt} (hF : aFin C none LAY r 0 0) (hrec13 : ∀ (v1 : Int32) (v2 : Int32) (v3 : Int32) (S : aSt), rec13 v1 v2 v3 S = (some r) → aX C M_X11_layFigures 0 0 (13, [(0, .ref 42), (1, .int v1), (2, .int v2), (3, .int v3)], [], LAY, S)) : ∀ (n : Nat) (v1 : Int32) (v2 : Int32) (v3 : Int32) (v4 : Int32) (v5 : Int32) (S : aSt), X11_layFigures_42_l45 N rec13 n v1 v2 v3 v4 v5 S = (some r) → aX C M_X11_layFigures 0 0 (45, [(0, .ref 42), (1, .int v1), (2, .int v2), (3, .int v3), (4, .int v4), (5, .int v5)], [], LAY, S)
  | 0, _, _, _, _, _, _,  h => nomatch (show (none : Option (aSt)) = some _ from h)
  | n + 1, v1, v2, v3, v4, v5, S,  h => X11_layFigures_42_b45_ok hC hF hrec13 (fun v1 v2 v3 v4 v5 S h => X11_layFigures_42_l45_ok hC hF hrec13 n v1 v2 v3 v4 v5 S h) v1 v2 v3 v4 v5 S h
def X11_layFigures_42_b43 (N : Nat) (rec13 : Int32 → Int32 → Int32 → aSt → Option (aSt)) (v1 : Int32) (v2 : Int32) (v3 : Int32) (v4 : Int32) (s0 : Int32) (S : aSt) : Option (aSt) := (X11_layFigures_42_l45 N rec13 N v1 v2 v3 v4 s0 S)
set_option maxHeartbeats 4000000 in
set_option maxRecDepth 100000 in
theorem X11_layFigures_42_b43_ok {C : aC} {N : Nat} {rec13 : Int32 → Int32 → Int32 → aSt → Option (aSt)} (hC : aCx C M_X11_layFigures) {r : aSt} (hF : aFin C none LAY r 0 0) (hrec13 : ∀ (v1 : Int32) (v2 : Int32) (v3 : Int32) (S : aSt), rec13 v1 v2 v3 S = (some r) → aX C M_X11_layFigures 0 0 (13, [(0, .ref 42), (1, .int v1), (2, .int v2), (3, .int v3)], [], LAY, S)) (v1 : Int32) (v2 : Int32) (v3 : Int32) (v4 : Int32) (s0 : Int32) (S : aSt) (hf : X11_layFigures_42_b43 N rec13 v1 v2 v3 v4 s0 S = (some r)) : aX C M_X11_layFigures 0 0 (43, [(0, .ref 42), (1, .int v1), (2, .int v2), (3, .int v3), (4, .int v4)], [.int s0], LAY, S) := by
  have hT := ok_X11_layFigures
  unfold X11_layFigures_42_b43 at hf
  refine aRun_ok hC hT 1 (cf' := (45, [(5, .int s0), (0, .ref 42), (1, .int v1), (2, .int v2), (3, .int v3), (4, .int v4)], [], LAY, S)) (by rfl) ?_
  refine aLocs [1, 2, 3, 4, 5, 0] (lv' := [(0, .ref 42), (1, .int v1), (2, .int v2), (3, .int v3), (4, .int v4), (5, .int s0)]) rfl ?_
  exact X11_layFigures_42_l45_ok hC hF hrec13 N v1 v2 v3 v4 s0 S hf
def X11_layFigures_42_b13 (N : Nat) (rec13 : Int32 → Int32 → Int32 → aSt → Option (aSt)) (v1 : Int32) (v2 : Int32) (v3 : Int32) (S : aSt) : Option (aSt) := (Option.bind (X11_figures N v2) (fun w2 => (if w2 ≤ v3 then some (S) else (Option.bind (X11_figure N v2 v3) (fun w5 => (Option.bind (X11_figures N v2) (fun w7 => (if (v3 + (1 : Int32)) = w7 then (X11_layFigures_42_b43 N rec13 v1 v2 v3 w5 (1 : Int32) S) else (X11_layFigures_42_b43 N rec13 v1 v2 v3 w5 (0 : Int32) S)))))))))
set_option maxHeartbeats 4000000 in
set_option maxRecDepth 100000 in
theorem X11_layFigures_42_b13_ok {C : aC} {N : Nat} {rec13 : Int32 → Int32 → Int32 → aSt → Option (aSt)} (hC : aCx C M_X11_layFigures) {r : aSt} (hF : aFin C none LAY r 0 0) (hrec13 : ∀ (v1 : Int32) (v2 : Int32) (v3 : Int32) (S : aSt), rec13 v1 v2 v3 S = (some r) → aX C M_X11_layFigures 0 0 (13, [(0, .ref 42), (1, .int v1), (2, .int v2), (3, .int v3)], [], LAY, S)) (v1 : Int32) (v2 : Int32) (v3 : Int32) (S : aSt) (hf : X11_layFigures_42_b13 N rec13 v1 v2 v3 S = (some r)) : aX C M_X11_layFigures 0 0 (13, [(0, .ref 42), (1, .int v1), (2, .int v2), (3, .int v3)], [], LAY, S) := by
  have hT := ok_X11_layFigures
  unfold X11_layFigures_42_b13 at hf
  refine aRun_ok hC hT 2 (cf' := (15, [(0, .ref 42), (1, .int v1), (2, .int v2), (3, .int v3)], [.int v2, .int v3], LAY, S)) (by rfl) ?_
  obtain ⟨w2, ew3, hf⟩ := aBnE hf
  refine aCallS (As := [.int v2]) (rest := [.int v3]) hC hT rfl k_X11_layFigures_182.1 _ k_X11_layFigures_182.2 (by rfl) (Nat.le_of_ble_eq_true rfl) (by decide) (J_X11_figures C.2.2.1 C.1 N v2 S ew3) ?_
  refine aCmp_ge hC hT (tgt := 120) rfl (by decide) (fun hc4 => ?_) (fun hc4 => ?_)
  · have hf := aIfT hf hc4
    have e9 := Option.some.inj hf; subst e9
    exact aRetV hC hT hF rfl rfl
  · have hf := aIfF hf hc4
    refine aRun_ok hC hT 2 (cf' := (23, [(0, .ref 42), (1, .int v1), (2, .int v2), (3, .int v3)], [.int v3, .int v2], LAY, S)) (by rfl) ?_
    obtain ⟨w5, ew6, hf⟩ := aBnE hf
    refine aCallS (As := [.int v2, .int v3]) (rest := []) hC hT rfl k_X11_layFigures_178.1 _ k_X11_layFigures_178.2 (by rfl) (Nat.le_of_ble_eq_true rfl) (by decide) (J_X11_figure C.2.2.1 C.1 N v2 v3 S ew6) ?_
    refine aRun_ok hC hT 5 (cf' := (32, [(4, .int w5), (0, .ref 42), (1, .int v1), (2, .int v2), (3, .int v3)], [.int v2, .int (v3 + (1 : Int32))], LAY, S)) (by rfl) ?_
    obtain ⟨w7, ew8, hf⟩ := aBnE hf
    refine aCallS (As := [.int v2]) (rest := [.int (v3 + (1 : Int32))]) hC hT rfl k_X11_layFigures_182.1 _ k_X11_layFigures_182.2 (by rfl) (Nat.le_of_ble_eq_true rfl) (by decide) (J_X11_figures C.2.2.1 C.1 N v2 S ew8) ?_
    refine aCmp_ne hC hT (tgt := 42) rfl (by decide) (fun hc9 => ?_) (fun hc9 => ?_)
    · have hf := aIfF hf hc9
      refine aRun_ok hC hT 1 (cf' := (43, [(4, .int w5), (0, .ref 42), (1, .int v1), (2, .int v2), (3, .int v3)], [.int (0 : Int32)], LAY, S)) (by rfl) ?_
      refine aLocs [1, 2, 3, 4, 0] (lv' := [(0, .ref 42), (1, .int v1), (2, .int v2), (3, .int v3), (4, .int w5)]) rfl ?_
      exact X11_layFigures_42_b43_ok hC hF hrec13 v1 v2 v3 w5 (0 : Int32) S hf
    · have hf := aIfT hf hc9
      refine aRun_ok hC hT 2 (cf' := (43, [(4, .int w5), (0, .ref 42), (1, .int v1), (2, .int v2), (3, .int v3)], [.int (1 : Int32)], LAY, S)) (by rfl) ?_
      refine aLocs [1, 2, 3, 4, 0] (lv' := [(0, .ref 42), (1, .int v1), (2, .int v2), (3, .int v3), (4, .int w5)]) rfl ?_
      exact X11_layFigures_42_b43_ok hC hF hrec13 v1 v2 v3 w5 (1 : Int32) S hf
def X11_layFigures_42_l13 (N : Nat) : Nat → Int32 → Int32 → Int32 → aSt → Option (aSt)
  | 0 => fun _ _ _ _ => none
  | n + 1 => X11_layFigures_42_b13 N (X11_layFigures_42_l13 N n)
theorem X11_layFigures_42_l13_ok {C : aC} {N : Nat} (hC : aCx C M_X11_layFigures) {r : aSt} (hF : aFin C none LAY r 0 0) : ∀ (n : Nat) (v1 : Int32) (v2 : Int32) (v3 : Int32) (S : aSt), X11_layFigures_42_l13 N n v1 v2 v3 S = (some r) → aX C M_X11_layFigures 0 0 (13, [(0, .ref 42), (1, .int v1), (2, .int v2), (3, .int v3)], [], LAY, S)
  | 0, _, _, _, _,  h => nomatch (show (none : Option (aSt)) = some _ from h)
  | n + 1, v1, v2, v3, S,  h => X11_layFigures_42_b13_ok hC hF (fun v1 v2 v3 S h => X11_layFigures_42_l13_ok hC hF n v1 v2 v3 S h) v1 v2 v3 S h
def X11_layFigures_42 (N : Nat) (a1 : Int32) (S : aSt) : Option (aSt) := (if aIx (((5 : Int32) * a1) + (1 : Int32)) 150 = true then (X11_layFigures_42_l13 N N a1 ((S.2.2 45) (((5 : Int32) * a1) + (1 : Int32)).toNatClampNeg) (0 : Int32) S) else none)
set_option maxHeartbeats 4000000 in
set_option maxRecDepth 100000 in
theorem J_X11_layFigures_42 (l : Launch) (g : aWg) (N : Nat) (a1 : Int32) (S : aSt) {r : aSt} (hf : X11_layFigures_42 N a1 S = (some r)) : aJ l g yX11_layFigures M_X11_layFigures [.ref 42, .int a1] LAY S none LAY r 0 0 := by
  refine aJ_of (by decide +kernel) rfl (Nat.le_of_ble_eq_true rfl) (fun h => nomatch h) ?_
  intro C hg hl hC hz hF
  subst hg; subst hl
  have hT := ok_X11_layFigures
  unfold X11_layFigures_42 at hf
  show aX C M_X11_layFigures 0 0 (0, [(0, .ref 42), (1, .int a1)], [], LAY, S)
  refine aRun_ok hC hT 7 (cf' := (9, [(0, .ref 42), (1, .int a1)], [.int (((5 : Int32) * a1) + (1 : Int32)), .ref 45], LAY, S)) (by rfl) ?_
  obtain ⟨hin1, hf⟩ := aGdE hf
  refine aIald hC hT rfl (by decide) (by rfl) hin1 ?_
  refine aRun_ok hC hT 3 (cf' := (13, [(3, .int (0 : Int32)), (2, .int ((S.2.2 45) (((5 : Int32) * a1) + (1 : Int32)).toNatClampNeg)), (0, .ref 42), (1, .int a1)], [], LAY, S)) (by rfl) ?_
  refine aLocs [2, 3, 1, 0] (lv' := [(0, .ref 42), (1, .int a1), (2, .int ((S.2.2 45) (((5 : Int32) * a1) + (1 : Int32)).toNatClampNeg)), (3, .int (0 : Int32))]) rfl ?_
  exact X11_layFigures_42_l13_ok hC hF N a1 ((S.2.2 45) (((5 : Int32) * a1) + (1 : Int32)).toNatClampNeg) (0 : Int32) S hf
def X11_layKind_42_b247 (N : Nat) (s0 : Int32) (s1 : Int32) (s2 : Int32) (s3 : Int32) (s4 : Int32) (S : aSt) : Option (aSt) := (Option.bind (X11_add_42 N s4 s3 s2 s1 s0 S) (fun w8 => some (w8)))
set_option maxHeartbeats 4000000 in
set_option maxRecDepth 100000 in
theorem X11_layKind_42_b247_ok {C : aC} {N : Nat} (hC : aCx C M_X11_layKind) {r : aSt} (hF : aFin C none LAY r 0 0) (s0 : Int32) (s1 : Int32) (s2 : Int32) (s3 : Int32) (s4 : Int32) (S : aSt) (hf : X11_layKind_42_b247 N s0 s1 s2 s3 s4 S = (some r)) : aX C M_X11_layKind 0 0 (247, [], [.int s0, .int s1, .int s2, .int s3, .int s4, .ref 42], LAY, S) := by
  have hT := ok_X11_layKind
  unfold X11_layKind_42_b247 at hf
  obtain ⟨w8, ew9, hf⟩ := aBnE hf
  refine aCallV (b := 42) (As := [.int s4, .int s3, .int s2, .int s1, .int s0]) (rest := []) hC hT rfl k_X11_layKind_191.1 _ _ k_X11_layKind_191.2 (by decide) (by rfl) (by rfl) (by rfl) (Nat.le_of_ble_eq_true rfl) (by decide) (J_X11_add_42 C.2.2.1 C.1 N s4 s3 s2 s1 s0 S ew9) ?_
  have e9 := Option.some.inj hf; subst e9
  exact aRetV hC hT hF rfl rfl
def X11_layKind_42_b93 (N : Nat) (rec47 : Int32 → Int32 → Int32 → aSt → Option (aSt)) (v2 : Int32) (v3 : Int32) (v4 : Int32) (s0 : Int32) (s1 : Int32) (s2 : Int32) (s3 : Int32) (s4 : Int32) (S : aSt) : Option (aSt) := (Option.bind (X11_add_42 N s4 s3 s2 s1 s0 S) (fun w23 => (rec47 v2 v3 (v4 + (1 : Int32)) w23)))
set_option maxHeartbeats 4000000 in
set_option maxRecDepth 100000 in
theorem X11_layKind_42_b93_ok {C : aC} {N : Nat} {rec47 : Int32 → Int32 → Int32 → aSt → Option (aSt)} (hC : aCx C M_X11_layKind) {r : aSt} (hF : aFin C none LAY r 0 0) (hrec47 : ∀ (v2 : Int32) (v3 : Int32) (v4 : Int32) (S : aSt), rec47 v2 v3 v4 S = (some r) → aX C M_X11_layKind 0 0 (47, [(0, .ref 42), (2, .int v2), (3, .int v3), (4, .int v4)], [], LAY, S)) (v2 : Int32) (v3 : Int32) (v4 : Int32) (s0 : Int32) (s1 : Int32) (s2 : Int32) (s3 : Int32) (s4 : Int32) (S : aSt) (hf : X11_layKind_42_b93 N rec47 v2 v3 v4 s0 s1 s2 s3 s4 S = (some r)) : aX C M_X11_layKind 0 0 (93, [(0, .ref 42), (2, .int v2), (3, .int v3), (4, .int v4)], [.int s0, .int s1, .int s2, .int s3, .int s4, .ref 42], LAY, S) := by
  have hT := ok_X11_layKind
  unfold X11_layKind_42_b93 at hf
  obtain ⟨w23, ew24, hf⟩ := aBnE hf
  refine aCallV (b := 42) (As := [.int s4, .int s3, .int s2, .int s1, .int s0]) (rest := []) hC hT rfl k_X11_layKind_191.1 _ _ k_X11_layKind_191.2 (by decide) (by rfl) (by rfl) (by rfl) (Nat.le_of_ble_eq_true rfl) (by decide) (J_X11_add_42 C.2.2.1 C.1 N s4 s3 s2 s1 s0 S ew24) ?_
  refine aRun_ok hC hT 2 (cf' := (47, [(4, .int (v4 + (1 : Int32))), (0, .ref 42), (2, .int v2), (3, .int v3)], [], LAY, w23)) (by rfl) ?_
  refine aLocs [1, 2, 3, 0] (lv' := [(0, .ref 42), (2, .int v2), (3, .int v3), (4, .int (v4 + (1 : Int32)))]) rfl ?_
  exact hrec47 v2 v3 (v4 + (1 : Int32)) w23 hf
def X11_layKind_42_b47 (N : Nat) (rec47 : Int32 → Int32 → Int32 → aSt → Option (aSt)) (v2 : Int32) (v3 : Int32) (v4 : Int32) (S : aSt) : Option (aSt) := (Option.bind (X11_figures N v3) (fun w13 => (if w13 ≤ (v4 + (1 : Int32)) then some (S) else (Option.bind (X11_turned N v3 v4) (fun w16 => (Option.bind (X11_changeBy_42 N v2 w16 S) (fun w18 => (if w16 = (0 : Int32) then (X11_layKind_42_b93 N rec47 v2 v3 v4 (0 : Int32) w18 w16 v2 (0 : Int32) S) else (Option.bind (X11_oddsOf_42 N v2 (0 : Int32) S) (fun w21 => (X11_layKind_42_b93 N rec47 v2 v3 v4 w21 w18 w16 v2 (0 : Int32) S)))))))))))
set_option maxHeartbeats 4000000 in
set_option maxRecDepth 100000 in
theorem X11_layKind_42_b47_ok {C : aC} {N : Nat} {rec47 : Int32 → Int32 → Int32 → aSt → Option (aSt)} (hC : aCx C M_X11_layKind) {r : aSt} (hF : aFin C none LAY r 0 0) (hrec47 : ∀ (v2 : Int32) (v3 : Int32) (v4 : Int32) (S : aSt), rec47 v2 v3 v4 S = (some r) → aX C M_X11_layKind 0 0 (47, [(0, .ref 42), (2, .int v2), (3, .int v3), (4, .int v4)], [], LAY, S)) (v2 : Int32) (v3 : Int32) (v4 : Int32) (S : aSt) (hf : X11_layKind_42_b47 N rec47 v2 v3 v4 S = (some r)) : aX C M_X11_layKind 0 0 (47, [(0, .ref 42), (2, .int v2), (3, .int v3), (4, .int v4)], [], LAY, S) := by
  have hT := ok_X11_layKind
  unfold X11_layKind_42_b47 at hf
  refine aRun_ok hC hT 4 (cf' := (52, [(0, .ref 42), (2, .int v2), (3, .int v3), (4, .int v4)], [.int v3, .int (v4 + (1 : Int32))], LAY, S)) (by rfl) ?_
  obtain ⟨w13, ew14, hf⟩ := aBnE hf
  refine aCallS (As := [.int v3]) (rest := [.int (v4 + (1 : Int32))]) hC hT rfl k_X11_layKind_182.1 _ k_X11_layKind_182.2 (by rfl) (Nat.le_of_ble_eq_true rfl) (by decide) (J_X11_figures C.2.2.1 C.1 N v3 S ew14) ?_
  refine aCmp_ge hC hT (tgt := 102) rfl (by decide) (fun hc15 => ?_) (fun hc15 => ?_)
  · have hf := aIfT hf hc15
    have e9 := Option.some.inj hf; subst e9
    exact aRetV hC hT hF rfl rfl
  · have hf := aIfF hf hc15
    refine aRun_ok hC hT 2 (cf' := (61, [(0, .ref 42), (2, .int v2), (3, .int v3), (4, .int v4)], [.int v4, .int v3], LAY, S)) (by rfl) ?_
    obtain ⟨w16, ew17, hf⟩ := aBnE hf
    refine aCallS (As := [.int v3, .int v4]) (rest := []) hC hT rfl k_X11_layKind_195.1 _ k_X11_layKind_195.2 (by rfl) (Nat.le_of_ble_eq_true rfl) (by decide) (J_X11_turned C.2.2.1 C.1 N v3 v4 S ew17) ?_
    refine aRun_ok hC hT 8 (cf' := (75, [(5, .int w16), (0, .ref 42), (2, .int v2), (3, .int v3), (4, .int v4)], [.int w16, .int v2, .ref 42, .int w16, .int v2, .int (0 : Int32), .ref 42], LAY, S)) (by rfl) ?_
    obtain ⟨w18, ew19, hf⟩ := aBnE hf
    refine aCallV (b := 42) (As := [.int v2, .int w16]) (rest := [.int w16, .int v2, .int (0 : Int32), .ref 42]) hC hT rfl k_X11_layKind_185.1 _ _ k_X11_layKind_185.2 (by decide) (by rfl) (by rfl) (by rfl) (Nat.le_of_ble_eq_true rfl) (by decide) (J_X11_changeBy_42 C.2.2.1 C.1 N v2 w16 S ew19) ?_
    refine aRun_ok hC hT 1 (cf' := (80, [(5, .int w16), (0, .ref 42), (2, .int v2), (3, .int v3), (4, .int v4)], [.int w16, .int w18, .int w16, .int v2, .int (0 : Int32), .ref 42], LAY, S)) (by rfl) ?_
    refine aIf_ne hC hT (tgt := 87) rfl (by decide) (fun hc20 => ?_) (fun hc20 => ?_)
    · have hf := aIfF hf hc20
      refine aRun_ok hC hT 3 (cf' := (90, [(5, .int w16), (0, .ref 42), (2, .int v2), (3, .int v3), (4, .int v4)], [.int (0 : Int32), .int v2, .ref 42, .int w18, .int w16, .int v2, .int (0 : Int32), .ref 42], LAY, S)) (by rfl) ?_
      obtain ⟨w21, ew22, hf⟩ := aBnE hf
      refine aCallV (b := 42) (As := [.int v2, .int (0 : Int32)]) (rest := [.int w18, .int w16, .int v2, .int (0 : Int32), .ref 42]) hC hT rfl k_X11_layKind_188.1 _ _ k_X11_layKind_188.2 (by decide) (by rfl) (by rfl) (by rfl) (Nat.le_of_ble_eq_true rfl) (by decide) (J_X11_oddsOf_42 C.2.2.1 C.1 N v2 (0 : Int32) S ew22) ?_
      refine aLocs [1, 2, 3, 4] (lv' := [(0, .ref 42), (2, .int v2), (3, .int v3), (4, .int v4)]) rfl ?_
      exact X11_layKind_42_b93_ok hC hF hrec47 v2 v3 v4 w21 w18 w16 v2 (0 : Int32) S hf
    · have hf := aIfT hf hc20
      refine aRun_ok hC hT 2 (cf' := (93, [(5, .int w16), (0, .ref 42), (2, .int v2), (3, .int v3), (4, .int v4)], [.int (0 : Int32), .int w18, .int w16, .int v2, .int (0 : Int32), .ref 42], LAY, S)) (by rfl) ?_
      refine aLocs [1, 2, 3, 4] (lv' := [(0, .ref 42), (2, .int v2), (3, .int v3), (4, .int v4)]) rfl ?_
      exact X11_layKind_42_b93_ok hC hF hrec47 v2 v3 v4 (0 : Int32) w18 w16 v2 (0 : Int32) S hf
def X11_layKind_42_l47 (N : Nat) : Nat → Int32 → Int32 → Int32 → aSt → Option (aSt)
  | 0 => fun _ _ _ _ => none
  | n + 1 => X11_layKind_42_b47 N (X11_layKind_42_l47 N n)
theorem X11_layKind_42_l47_ok {C : aC} {N : Nat} (hC : aCx C M_X11_layKind) {r : aSt} (hF : aFin C none LAY r 0 0) : ∀ (n : Nat) (v2 : Int32) (v3 : Int32) (v4 : Int32) (S : aSt), X11_layKind_42_l47 N n v2 v3 v4 S = (some r) → aX C M_X11_layKind 0 0 (47, [(0, .ref 42), (2, .int v2), (3, .int v3), (4, .int v4)], [], LAY, S)
  | 0, _, _, _, _,  h => nomatch (show (none : Option (aSt)) = some _ from h)
  | n + 1, v2, v3, v4, S,  h => X11_layKind_42_b47_ok hC hF (fun v2 v3 v4 S h => X11_layKind_42_l47_ok hC hF n v2 v3 v4 S h) v2 v3 v4 S h
def X11_layKind_42_b180 (N : Nat) (s0 : Int32) (s1 : Int32) (s2 : Int32) (s3 : Int32) (s4 : Int32) (S : aSt) : Option (aSt) := (Option.bind (X11_add_42 N s4 s3 s2 s1 s0 S) (fun w37 => some (w37)))
set_option maxHeartbeats 4000000 in
set_option maxRecDepth 100000 in
theorem X11_layKind_42_b180_ok {C : aC} {N : Nat} (hC : aCx C M_X11_layKind) {r : aSt} (hF : aFin C none LAY r 0 0) (s0 : Int32) (s1 : Int32) (s2 : Int32) (s3 : Int32) (s4 : Int32) (S : aSt) (hf : X11_layKind_42_b180 N s0 s1 s2 s3 s4 S = (some r)) : aX C M_X11_layKind 0 0 (180, [], [.int s0, .int s1, .int s2, .int s3, .int s4, .ref 42], LAY, S) := by
  have hT := ok_X11_layKind
  unfold X11_layKind_42_b180 at hf
  obtain ⟨w37, ew38, hf⟩ := aBnE hf
  refine aCallV (b := 42) (As := [.int s4, .int s3, .int s2, .int s1, .int s0]) (rest := []) hC hT rfl k_X11_layKind_191.1 _ _ k_X11_layKind_191.2 (by decide) (by rfl) (by rfl) (by rfl) (Nat.le_of_ble_eq_true rfl) (by decide) (J_X11_add_42 C.2.2.1 C.1 N s4 s3 s2 s1 s0 S ew38) ?_
  have e9 := Option.some.inj hf; subst e9
  exact aRetV hC hT hF rfl rfl
def X11_layKind_42_b142 (N : Nat) (v2 : Int32) (v3 : Int32) (s0 : Int32) (s1 : Int32) (s2 : Int32) (s3 : Int32) (s4 : Int32) (S : aSt) : Option (aSt) := (Option.bind (X11_add_42 N s4 s3 s2 s1 s0 S) (fun w32 => (Option.bind (X11_changeBy_42 N v2 ((10 : Int32) * v3) w32) (fun w34 => (if (999999 : Int32) < ((10 : Int32) * v3) then (X11_layKind_42_b180 N (0 : Int32) w34 ((10 : Int32) * v3) v2 (2 : Int32) w32) else (Option.bind (X11_oddsOf_42 N v2 (2 : Int32) w32) (fun w39 => (X11_layKind_42_b180 N w39 w34 ((10 : Int32) * v3) v2 (2 : Int32) w32))))))))
set_option maxHeartbeats 4000000 in
set_option maxRecDepth 100000 in
theorem X11_layKind_42_b142_ok {C : aC} {N : Nat} (hC : aCx C M_X11_layKind) {r : aSt} (hF : aFin C none LAY r 0 0) (v2 : Int32) (v3 : Int32) (s0 : Int32) (s1 : Int32) (s2 : Int32) (s3 : Int32) (s4 : Int32) (S : aSt) (hf : X11_layKind_42_b142 N v2 v3 s0 s1 s2 s3 s4 S = (some r)) : aX C M_X11_layKind 0 0 (142, [(0, .ref 42), (2, .int v2), (3, .int v3)], [.int s0, .int s1, .int s2, .int s3, .int s4, .ref 42], LAY, S) := by
  have hT := ok_X11_layKind
  unfold X11_layKind_42_b142 at hf
  obtain ⟨w32, ew33, hf⟩ := aBnE hf
  refine aCallV (b := 42) (As := [.int s4, .int s3, .int s2, .int s1, .int s0]) (rest := []) hC hT rfl k_X11_layKind_191.1 _ _ k_X11_layKind_191.2 (by decide) (by rfl) (by rfl) (by rfl) (Nat.le_of_ble_eq_true rfl) (by decide) (J_X11_add_42 C.2.2.1 C.1 N s4 s3 s2 s1 s0 S ew33) ?_
  refine aRun_ok hC hT 11 (cf' := (158, [(0, .ref 42), (2, .int v2), (3, .int v3)], [.int ((10 : Int32) * v3), .int v2, .ref 42, .int ((10 : Int32) * v3), .int v2, .int (2 : Int32), .ref 42], LAY, w32)) (by rfl) ?_
  obtain ⟨w34, ew35, hf⟩ := aBnE hf
  refine aCallV (b := 42) (As := [.int v2, .int ((10 : Int32) * v3)]) (rest := [.int ((10 : Int32) * v3), .int v2, .int (2 : Int32), .ref 42]) hC hT rfl k_X11_layKind_185.1 _ _ k_X11_layKind_185.2 (by decide) (by rfl) (by rfl) (by rfl) (Nat.le_of_ble_eq_true rfl) (by decide) (J_X11_changeBy_42 C.2.2.1 C.1 N v2 ((10 : Int32) * v3) w32 ew35) ?_
  refine aRun_ok hC hT 4 (cf' := (167, [(0, .ref 42), (2, .int v2), (3, .int v3)], [.int (999999 : Int32), .int ((10 : Int32) * v3), .int w34, .int ((10 : Int32) * v3), .int v2, .int (2 : Int32), .ref 42], LAY, w32)) (by rfl) ?_
  refine aCmp_gt hC hT (tgt := 179) rfl (by decide) (fun hc36 => ?_) (fun hc36 => ?_)
  · have hf := aIfT hf hc36
    refine aRun_ok hC hT 1 (cf' := (180, [(0, .ref 42), (2, .int v2), (3, .int v3)], [.int (0 : Int32), .int w34, .int ((10 : Int32) * v3), .int v2, .int (2 : Int32), .ref 42], LAY, w32)) (by rfl) ?_
    refine aLocs [] (lv' := []) rfl ?_
    exact X11_layKind_42_b180_ok hC hF (0 : Int32) w34 ((10 : Int32) * v3) v2 (2 : Int32) w32 hf
  · have hf := aIfF hf hc36
    refine aRun_ok hC hT 3 (cf' := (173, [(0, .ref 42), (2, .int v2), (3, .int v3)], [.int (2 : Int32), .int v2, .ref 42, .int w34, .int ((10 : Int32) * v3), .int v2, .int (2 : Int32), .ref 42], LAY, w32)) (by rfl) ?_
    obtain ⟨w39, ew40, hf⟩ := aBnE hf
    refine aCallV (b := 42) (As := [.int v2, .int (2 : Int32)]) (rest := [.int w34, .int ((10 : Int32) * v3), .int v2, .int (2 : Int32), .ref 42]) hC hT rfl k_X11_layKind_188.1 _ _ k_X11_layKind_188.2 (by decide) (by rfl) (by rfl) (by rfl) (Nat.le_of_ble_eq_true rfl) (by decide) (J_X11_oddsOf_42 C.2.2.1 C.1 N v2 (2 : Int32) w32 ew40) ?_
    refine aRun_ok hC hT 1 (cf' := (180, [(0, .ref 42), (2, .int v2), (3, .int v3)], [.int w39, .int w34, .int ((10 : Int32) * v3), .int v2, .int (2 : Int32), .ref 42], LAY, w32)) (by rfl) ?_
    refine aLocs [] (lv' := []) rfl ?_
    exact X11_layKind_42_b180_ok hC hF w39 w34 ((10 : Int32) * v3) v2 (2 : Int32) w32 hf
def X11_layKind_42_b209 (N : Nat) (v2 : Int32) (s0 : Int32) (s1 : Int32) (s2 : Int32) (s3 : Int32) (S : aSt) : Option (aSt) := (Option.bind (X11_oddsOf_42 N v2 (3 : Int32) S) (fun w46 => (Option.bind (X11_add_42 N s3 s2 s1 s0 w46 S) (fun w48 => some (w48)))))
set_option maxHeartbeats 4000000 in
set_option maxRecDepth 100000 in
theorem X11_layKind_42_b209_ok {C : aC} {N : Nat} (hC : aCx C M_X11_layKind) {r : aSt} (hF : aFin C none LAY r 0 0) (v2 : Int32) (s0 : Int32) (s1 : Int32) (s2 : Int32) (s3 : Int32) (S : aSt) (hf : X11_layKind_42_b209 N v2 s0 s1 s2 s3 S = (some r)) : aX C M_X11_layKind 0 0 (209, [(0, .ref 42), (2, .int v2)], [.int s0, .int s1, .int s2, .int s3, .ref 42], LAY, S) := by
  have hT := ok_X11_layKind
  unfold X11_layKind_42_b209 at hf
  refine aRun_ok hC hT 3 (cf' := (212, [(0, .ref 42), (2, .int v2)], [.int (3 : Int32), .int v2, .ref 42, .int s0, .int s1, .int s2, .int s3, .ref 42], LAY, S)) (by rfl) ?_
  obtain ⟨w46, ew47, hf⟩ := aBnE hf
  refine aCallV (b := 42) (As := [.int v2, .int (3 : Int32)]) (rest := [.int s0, .int s1, .int s2, .int s3, .ref 42]) hC hT rfl k_X11_layKind_188.1 _ _ k_X11_layKind_188.2 (by decide) (by rfl) (by rfl) (by rfl) (Nat.le_of_ble_eq_true rfl) (by decide) (J_X11_oddsOf_42 C.2.2.1 C.1 N v2 (3 : Int32) S ew47) ?_
  obtain ⟨w48, ew49, hf⟩ := aBnE hf
  refine aCallV (b := 42) (As := [.int s3, .int s2, .int s1, .int s0, .int w46]) (rest := []) hC hT rfl k_X11_layKind_191.1 _ _ k_X11_layKind_191.2 (by decide) (by rfl) (by rfl) (by rfl) (Nat.le_of_ble_eq_true rfl) (by decide) (J_X11_add_42 C.2.2.1 C.1 N s3 s2 s1 s0 w46 S ew49) ?_
  have e9 := Option.some.inj hf; subst e9
  exact aRetV hC hT hF rfl rfl
def X11_layKind_42 (N : Nat) (a1 : Int32) (a2 : Int32) (S : aSt) : Option (aSt) := (if aIx (((5 : Int32) * a2) + (1 : Int32)) 150 = true then (if a1.toInt < 0 ∨ 3 < a1.toInt then (Option.bind (X11_changeBy_42 N a2 (0 : Int32) S) (fun w3 => (Option.bind (X11_isTwice_42 N a2 S) (fun w5 => (if w5 = (0 : Int32) then (X11_layKind_42_b247 N (0 : Int32) w3 (0 : Int32) a2 (4 : Int32) S) else (Option.bind (X11_oddsOf_42 N a2 (4 : Int32) S) (fun w10 => (X11_layKind_42_b247 N w10 w3 (0 : Int32) a2 (4 : Int32) S)))))))) else (if a1 = (0 : Int32) then (X11_layKind_42_l47 N N a2 ((S.2.2 45) (((5 : Int32) * a2) + (1 : Int32)).toNatClampNeg) (0 : Int32) S) else (if a1 = (1 : Int32) then (Option.bind (X11_layFigures_42 N a2 S) (fun w26 => some (w26))) else (if a1 = (2 : Int32) then (Option.bind (X11_changeBy_42 N a2 (((S.2.2 45) (((5 : Int32) * a2) + (1 : Int32)).toNatClampNeg) / (10 : Int32)) S) (fun w29 => (if (((S.2.2 45) (((5 : Int32) * a2) + (1 : Int32)).toNatClampNeg) - ((S.2.2 45) (((5 : Int32) * a2) + (1 : Int32)).toNatClampNeg) / (10 : Int32) * (10 : Int32)) = (0 : Int32) then (Option.bind (X11_oddsOf_42 N a2 (2 : Int32) S) (fun w41 => (X11_layKind_42_b142 N a2 ((S.2.2 45) (((5 : Int32) * a2) + (1 : Int32)).toNatClampNeg) w41 w29 (((S.2.2 45) (((5 : Int32) * a2) + (1 : Int32)).toNatClampNeg) / (10 : Int32)) a2 (2 : Int32) S))) else (X11_layKind_42_b142 N a2 ((S.2.2 45) (((5 : Int32) * a2) + (1 : Int32)).toNatClampNeg) (0 : Int32) w29 (((S.2.2 45) (((5 : Int32) * a2) + (1 : Int32)).toNatClampNeg) / (10 : Int32)) a2 (2 : Int32) S)))) else (if a1 = (3 : Int32) then (if aIx ((5 : Int32) * a2) 150 = true then (if ((S.2.2 45) ((5 : Int32) * a2).toNatClampNeg) = (0 : Int32) then (X11_layKind_42_b209 N a2 (((-2) : Int32) * ((S.2.2 45) (((5 : Int32) * a2) + (1 : Int32)).toNatClampNeg)) ((S.2.2 45) (((5 : Int32) * a2) + (1 : Int32)).toNatClampNeg) a2 (3 : Int32) S) else (X11_layKind_42_b209 N a2 ((2 : Int32) * ((S.2.2 45) (((5 : Int32) * a2) + (1 : Int32)).toNatClampNeg)) ((S.2.2 45) (((5 : Int32) * a2) + (1 : Int32)).toNatClampNeg) a2 (3 : Int32) S)) else none) else none))))) else none)
set_option maxHeartbeats 4000000 in
set_option maxRecDepth 100000 in
theorem J_X11_layKind_42 (l : Launch) (g : aWg) (N : Nat) (a1 : Int32) (a2 : Int32) (S : aSt) {r : aSt} (hf : X11_layKind_42 N a1 a2 S = (some r)) : aJ l g yX11_layKind M_X11_layKind [.ref 42, .int a1, .int a2] LAY S none LAY r 0 0 := by
  refine aJ_of (by decide +kernel) rfl (Nat.le_of_ble_eq_true rfl) (fun h => nomatch h) ?_
  intro C hg hl hC hz hF
  subst hg; subst hl
  have hT := ok_X11_layKind
  unfold X11_layKind_42 at hf
  show aX C M_X11_layKind 0 0 (0, [(0, .ref 42), (1, .int a1), (2, .int a2)], [], LAY, S)
  refine aRun_ok hC hT 7 (cf' := (9, [(0, .ref 42), (1, .int a1), (2, .int a2)], [.int (((5 : Int32) * a2) + (1 : Int32)), .ref 45], LAY, S)) (by rfl) ?_
  obtain ⟨hin1, hf⟩ := aGdE hf
  refine aIald hC hT rfl (by decide) (by rfl) hin1 ?_
  refine aRun_ok hC hT 2 (cf' := (12, [(3, .int ((S.2.2 45) (((5 : Int32) * a2) + (1 : Int32)).toNatClampNeg)), (0, .ref 42), (1, .int a1), (2, .int a2)], [.int a1], LAY, S)) (by rfl) ?_
  rcases aTswE hf with ⟨hc2, hf⟩ | ⟨hc2, hf⟩
  · refine aTswD hC hT (tgt := 219) rfl hc2 (by decide) ?_
    refine aRun_ok hC hT 7 (cf' := (226, [(3, .int ((S.2.2 45) (((5 : Int32) * a2) + (1 : Int32)).toNatClampNeg)), (0, .ref 42), (1, .int a1), (2, .int a2)], [.int (0 : Int32), .int a2, .ref 42, .int (0 : Int32), .int a2, .int (4 : Int32), .ref 42], LAY, S)) (by rfl) ?_
    obtain ⟨w3, ew4, hf⟩ := aBnE hf
    refine aCallV (b := 42) (As := [.int a2, .int (0 : Int32)]) (rest := [.int (0 : Int32), .int a2, .int (4 : Int32), .ref 42]) hC hT rfl k_X11_layKind_185.1 _ _ k_X11_layKind_185.2 (by decide) (by rfl) (by rfl) (by rfl) (Nat.le_of_ble_eq_true rfl) (by decide) (J_X11_changeBy_42 C.2.2.1 C.1 N a2 (0 : Int32) S ew4) ?_
    refine aRun_ok hC hT 2 (cf' := (231, [(3, .int ((S.2.2 45) (((5 : Int32) * a2) + (1 : Int32)).toNatClampNeg)), (0, .ref 42), (1, .int a1), (2, .int a2)], [.int a2, .ref 42, .int w3, .int (0 : Int32), .int a2, .int (4 : Int32), .ref 42], LAY, S)) (by rfl) ?_
    obtain ⟨w5, ew6, hf⟩ := aBnE hf
    refine aCallV (b := 42) (As := [.int a2]) (rest := [.int w3, .int (0 : Int32), .int a2, .int (4 : Int32), .ref 42]) hC hT rfl k_X11_layKind_201.1 _ _ k_X11_layKind_201.2 (by decide) (by rfl) (by rfl) (by rfl) (Nat.le_of_ble_eq_true rfl) (by decide) (J_X11_isTwice_42 C.2.2.1 C.1 N a2 S ew6) ?_
    refine aIf_eq hC hT (tgt := 246) rfl (by decide) (fun hc7 => ?_) (fun hc7 => ?_)
    · have hf := aIfT hf hc7
      refine aRun_ok hC hT 1 (cf' := (247, [(3, .int ((S.2.2 45) (((5 : Int32) * a2) + (1 : Int32)).toNatClampNeg)), (0, .ref 42), (1, .int a1), (2, .int a2)], [.int (0 : Int32), .int w3, .int (0 : Int32), .int a2, .int (4 : Int32), .ref 42], LAY, S)) (by rfl) ?_
      refine aLocs [] (lv' := []) rfl ?_
      exact X11_layKind_42_b247_ok hC hF (0 : Int32) w3 (0 : Int32) a2 (4 : Int32) S hf
    · have hf := aIfF hf hc7
      refine aRun_ok hC hT 3 (cf' := (240, [(3, .int ((S.2.2 45) (((5 : Int32) * a2) + (1 : Int32)).toNatClampNeg)), (0, .ref 42), (1, .int a1), (2, .int a2)], [.int (4 : Int32), .int a2, .ref 42, .int w3, .int (0 : Int32), .int a2, .int (4 : Int32), .ref 42], LAY, S)) (by rfl) ?_
      obtain ⟨w10, ew11, hf⟩ := aBnE hf
      refine aCallV (b := 42) (As := [.int a2, .int (4 : Int32)]) (rest := [.int w3, .int (0 : Int32), .int a2, .int (4 : Int32), .ref 42]) hC hT rfl k_X11_layKind_188.1 _ _ k_X11_layKind_188.2 (by decide) (by rfl) (by rfl) (by rfl) (Nat.le_of_ble_eq_true rfl) (by decide) (J_X11_oddsOf_42 C.2.2.1 C.1 N a2 (4 : Int32) S ew11) ?_
      refine aRun_ok hC hT 1 (cf' := (247, [(3, .int ((S.2.2 45) (((5 : Int32) * a2) + (1 : Int32)).toNatClampNeg)), (0, .ref 42), (1, .int a1), (2, .int a2)], [.int w10, .int w3, .int (0 : Int32), .int a2, .int (4 : Int32), .ref 42], LAY, S)) (by rfl) ?_
      refine aLocs [] (lv' := []) rfl ?_
      exact X11_layKind_42_b247_ok hC hF w10 w3 (0 : Int32) a2 (4 : Int32) S hf
  · rcases aIfE hf with ⟨hc12, hf⟩ | ⟨-, hf⟩
    · refine aTsw hC hT (off := 32) (tgt := 44) rfl (0 : Int32) hc12 (by decide) (by decide) (by rfl) (by decide) ?_
      refine aRun_ok hC hT 2 (cf' := (47, [(4, .int (0 : Int32)), (3, .int ((S.2.2 45) (((5 : Int32) * a2) + (1 : Int32)).toNatClampNeg)), (0, .ref 42), (1, .int a1), (2, .int a2)], [], LAY, S)) (by rfl) ?_
      refine aLocs [2, 4, 1, 0] (lv' := [(0, .ref 42), (2, .int a2), (3, .int ((S.2.2 45) (((5 : Int32) * a2) + (1 : Int32)).toNatClampNeg)), (4, .int (0 : Int32))]) rfl ?_
      exact X11_layKind_42_l47_ok hC hF N a2 ((S.2.2 45) (((5 : Int32) * a2) + (1 : Int32)).toNatClampNeg) (0 : Int32) S hf
    · rcases aIfE hf with ⟨hc25, hf⟩ | ⟨-, hf⟩
      · refine aTsw hC hT (off := 91) (tgt := 103) rfl (1 : Int32) hc25 (by decide) (by decide) (by rfl) (by decide) ?_
        refine aRun_ok hC hT 2 (cf' := (105, [(3, .int ((S.2.2 45) (((5 : Int32) * a2) + (1 : Int32)).toNatClampNeg)), (0, .ref 42), (1, .int a1), (2, .int a2)], [.int a2, .ref 42], LAY, S)) (by rfl) ?_
        obtain ⟨w26, ew27, hf⟩ := aBnE hf
        refine aCallV (b := 42) (As := [.int a2]) (rest := []) hC hT rfl k_X11_layKind_198.1 _ _ k_X11_layKind_198.2 (by decide) (by rfl) (by rfl) (by rfl) (Nat.le_of_ble_eq_true rfl) (by decide) (J_X11_layFigures_42 C.2.2.1 C.1 N a2 S ew27) ?_
        have e9 := Option.some.inj hf; subst e9
        exact aRetV hC hT hF rfl rfl
      · rcases aIfE hf with ⟨hc28, hf⟩ | ⟨-, hf⟩
        · refine aTsw hC hT (off := 97) (tgt := 109) rfl (2 : Int32) hc28 (by decide) (by decide) (by rfl) (by decide) ?_
          refine aRun_ok hC hT 11 (cf' := (122, [(3, .int ((S.2.2 45) (((5 : Int32) * a2) + (1 : Int32)).toNatClampNeg)), (0, .ref 42), (1, .int a1), (2, .int a2)], [.int (((S.2.2 45) (((5 : Int32) * a2) + (1 : Int32)).toNatClampNeg) / (10 : Int32)), .int a2, .ref 42, .int (((S.2.2 45) (((5 : Int32) * a2) + (1 : Int32)).toNatClampNeg) / (10 : Int32)), .int a2, .int (2 : Int32), .ref 42], LAY, S)) (by rfl) ?_
          obtain ⟨w29, ew30, hf⟩ := aBnE hf
          refine aCallV (b := 42) (As := [.int a2, .int (((S.2.2 45) (((5 : Int32) * a2) + (1 : Int32)).toNatClampNeg) / (10 : Int32))]) (rest := [.int (((S.2.2 45) (((5 : Int32) * a2) + (1 : Int32)).toNatClampNeg) / (10 : Int32)), .int a2, .int (2 : Int32), .ref 42]) hC hT rfl k_X11_layKind_185.1 _ _ k_X11_layKind_185.2 (by decide) (by rfl) (by rfl) (by rfl) (Nat.le_of_ble_eq_true rfl) (by decide) (J_X11_changeBy_42 C.2.2.1 C.1 N a2 (((S.2.2 45) (((5 : Int32) * a2) + (1 : Int32)).toNatClampNeg) / (10 : Int32)) S ew30) ?_
          refine aRun_ok hC hT 3 (cf' := (129, [(3, .int ((S.2.2 45) (((5 : Int32) * a2) + (1 : Int32)).toNatClampNeg)), (0, .ref 42), (1, .int a1), (2, .int a2)], [.int (((S.2.2 45) (((5 : Int32) * a2) + (1 : Int32)).toNatClampNeg) - ((S.2.2 45) (((5 : Int32) * a2) + (1 : Int32)).toNatClampNeg) / (10 : Int32) * (10 : Int32)), .int w29, .int (((S.2.2 45) (((5 : Int32) * a2) + (1 : Int32)).toNatClampNeg) / (10 : Int32)), .int a2, .int (2 : Int32), .ref 42], LAY, S)) (by rfl) ?_
          refine aIf_ne hC hT (tgt := 141) rfl (by decide) (fun hc31 => ?_) (fun hc31 => ?_)
          · have hf := aIfF hf hc31
            refine aRun_ok hC hT 1 (cf' := (142, [(3, .int ((S.2.2 45) (((5 : Int32) * a2) + (1 : Int32)).toNatClampNeg)), (0, .ref 42), (1, .int a1), (2, .int a2)], [.int (0 : Int32), .int w29, .int (((S.2.2 45) (((5 : Int32) * a2) + (1 : Int32)).toNatClampNeg) / (10 : Int32)), .int a2, .int (2 : Int32), .ref 42], LAY, S)) (by rfl) ?_
            refine aLocs [1, 3, 0] (lv' := [(0, .ref 42), (2, .int a2), (3, .int ((S.2.2 45) (((5 : Int32) * a2) + (1 : Int32)).toNatClampNeg))]) rfl ?_
            exact X11_layKind_42_b142_ok hC hF a2 ((S.2.2 45) (((5 : Int32) * a2) + (1 : Int32)).toNatClampNeg) (0 : Int32) w29 (((S.2.2 45) (((5 : Int32) * a2) + (1 : Int32)).toNatClampNeg) / (10 : Int32)) a2 (2 : Int32) S hf
          · have hf := aIfT hf hc31
            refine aRun_ok hC hT 3 (cf' := (135, [(3, .int ((S.2.2 45) (((5 : Int32) * a2) + (1 : Int32)).toNatClampNeg)), (0, .ref 42), (1, .int a1), (2, .int a2)], [.int (2 : Int32), .int a2, .ref 42, .int w29, .int (((S.2.2 45) (((5 : Int32) * a2) + (1 : Int32)).toNatClampNeg) / (10 : Int32)), .int a2, .int (2 : Int32), .ref 42], LAY, S)) (by rfl) ?_
            obtain ⟨w41, ew42, hf⟩ := aBnE hf
            refine aCallV (b := 42) (As := [.int a2, .int (2 : Int32)]) (rest := [.int w29, .int (((S.2.2 45) (((5 : Int32) * a2) + (1 : Int32)).toNatClampNeg) / (10 : Int32)), .int a2, .int (2 : Int32), .ref 42]) hC hT rfl k_X11_layKind_188.1 _ _ k_X11_layKind_188.2 (by decide) (by rfl) (by rfl) (by rfl) (Nat.le_of_ble_eq_true rfl) (by decide) (J_X11_oddsOf_42 C.2.2.1 C.1 N a2 (2 : Int32) S ew42) ?_
            refine aRun_ok hC hT 1 (cf' := (142, [(3, .int ((S.2.2 45) (((5 : Int32) * a2) + (1 : Int32)).toNatClampNeg)), (0, .ref 42), (1, .int a1), (2, .int a2)], [.int w41, .int w29, .int (((S.2.2 45) (((5 : Int32) * a2) + (1 : Int32)).toNatClampNeg) / (10 : Int32)), .int a2, .int (2 : Int32), .ref 42], LAY, S)) (by rfl) ?_
            refine aLocs [1, 3, 0] (lv' := [(0, .ref 42), (2, .int a2), (3, .int ((S.2.2 45) (((5 : Int32) * a2) + (1 : Int32)).toNatClampNeg))]) rfl ?_
            exact X11_layKind_42_b142_ok hC hF a2 ((S.2.2 45) (((5 : Int32) * a2) + (1 : Int32)).toNatClampNeg) w41 w29 (((S.2.2 45) (((5 : Int32) * a2) + (1 : Int32)).toNatClampNeg) / (10 : Int32)) a2 (2 : Int32) S hf
        · rcases aIfE hf with ⟨hc43, hf⟩ | ⟨-, hf⟩
          · refine aTsw hC hT (off := 172) (tgt := 184) rfl (3 : Int32) hc43 (by decide) (by decide) (by rfl) (by decide) ?_
            refine aRun_ok hC hT 9 (cf' := (195, [(3, .int ((S.2.2 45) (((5 : Int32) * a2) + (1 : Int32)).toNatClampNeg)), (0, .ref 42), (1, .int a1), (2, .int a2)], [.int ((5 : Int32) * a2), .ref 45, .int ((S.2.2 45) (((5 : Int32) * a2) + (1 : Int32)).toNatClampNeg), .int a2, .int (3 : Int32), .ref 42], LAY, S)) (by rfl) ?_
            obtain ⟨hin44, hf⟩ := aGdE hf
            refine aIald hC hT rfl (by decide) (by rfl) hin44 ?_
            refine aIf_ne hC hT (tgt := 206) rfl (by decide) (fun hc45 => ?_) (fun hc45 => ?_)
            · have hf := aIfF hf hc45
              refine aRun_ok hC hT 3 (cf' := (209, [(3, .int ((S.2.2 45) (((5 : Int32) * a2) + (1 : Int32)).toNatClampNeg)), (0, .ref 42), (1, .int a1), (2, .int a2)], [.int ((2 : Int32) * ((S.2.2 45) (((5 : Int32) * a2) + (1 : Int32)).toNatClampNeg)), .int ((S.2.2 45) (((5 : Int32) * a2) + (1 : Int32)).toNatClampNeg), .int a2, .int (3 : Int32), .ref 42], LAY, S)) (by rfl) ?_
              refine aLocs [1, 3] (lv' := [(0, .ref 42), (2, .int a2)]) rfl ?_
              exact X11_layKind_42_b209_ok hC hF a2 ((2 : Int32) * ((S.2.2 45) (((5 : Int32) * a2) + (1 : Int32)).toNatClampNeg)) ((S.2.2 45) (((5 : Int32) * a2) + (1 : Int32)).toNatClampNeg) a2 (3 : Int32) S hf
            · have hf := aIfT hf hc45
              refine aRun_ok hC hT 4 (cf' := (209, [(3, .int ((S.2.2 45) (((5 : Int32) * a2) + (1 : Int32)).toNatClampNeg)), (0, .ref 42), (1, .int a1), (2, .int a2)], [.int (((-2) : Int32) * ((S.2.2 45) (((5 : Int32) * a2) + (1 : Int32)).toNatClampNeg)), .int ((S.2.2 45) (((5 : Int32) * a2) + (1 : Int32)).toNatClampNeg), .int a2, .int (3 : Int32), .ref 42], LAY, S)) (by rfl) ?_
              refine aLocs [1, 3] (lv' := [(0, .ref 42), (2, .int a2)]) rfl ?_
              exact X11_layKind_42_b209_ok hC hF a2 (((-2) : Int32) * ((S.2.2 45) (((5 : Int32) * a2) + (1 : Int32)).toNatClampNeg)) ((S.2.2 45) (((5 : Int32) * a2) + (1 : Int32)).toNatClampNeg) a2 (3 : Int32) S hf
          · cases hf
