def X9_init_1_c2 (S : aSt) : aSt := (aClr (aClr (aClr (aClr (aClr (aClr S 2) 3) 4) 5) 6) 7)
set_option maxHeartbeats 4000000 in
set_option maxRecDepth 100000 in
theorem J_X9_init_1_c2 (l : Launch) (g : aWg) (S : aSt) {r : aSt} (hf : X9_init_1_c2 S = r) : aJ l g yX9_init M_X9_init [.ref 1] Ly1 S none Ly13 r 6 853 := by
  refine aJ_of (by decide +kernel) rfl (Nat.le_of_ble_eq_true rfl) (fun _ => rfl) ?_
  intro C hg hl hC hz hF
  subst hg; subst hl
  have hT := ok_X9_init
  unfold X9_init_1_c2 at hf
  show aX C M_X9_init 0 0 (0, [(0, .ref 1)], [], Ly1, S)
  refine aRun_ok hC hT 1 (cf' := (1, [(0, .ref 1)], [.ref 1], Ly1, S)) (by rfl) ?_
  refine aObjI hC hT rfl (p1 := 95) (p2 := 88) (p3 := 89) (by decide +kernel) (by decide +kernel) (by decide +kernel) (by decide) (by decide) ?_
  refine aRun_ok hC hT 2 (cf' := (8, [(0, .ref 1)], [.int (200 : Int32), .ref 1], Ly1, S)) (by rfl) ?_
  refine aNewA (N := 200) hC hT rfl (p1 := 127) (by decide +kernel) 0 (by decide) (by decide) (by decide) (by decide) (by decide) (len := 2) rfl (by decide) (lay' := Ly2) rfl ?_
  refine aRun_ok hC hT 3 (cf' := (17, [(0, .ref 1)], [.int (201 : Int32), .ref 1], Ly3, (aClr S 2))) (by rfl) ?_
  refine aNewA (N := 201) hC hT rfl (p1 := 127) (by decide +kernel) 0 (by decide) (by decide) (by decide) (by decide) (by decide) (len := 3) rfl (by decide) (lay' := Ly4) rfl ?_
  refine aRun_ok hC hT 3 (cf' := (26, [(0, .ref 1)], [.int (201 : Int32), .ref 1], Ly5, (aClr (aClr S 2) 3))) (by rfl) ?_
  refine aNewA (N := 201) hC hT rfl (p1 := 127) (by decide +kernel) 0 (by decide) (by decide) (by decide) (by decide) (by decide) (len := 4) rfl (by decide) (lay' := Ly6) rfl ?_
  refine aRun_ok hC hT 3 (cf' := (35, [(0, .ref 1)], [.int (201 : Int32), .ref 1], Ly7, (aClr (aClr (aClr S 2) 3) 4))) (by rfl) ?_
  refine aNewA (N := 201) hC hT rfl (p1 := 127) (by decide +kernel) 0 (by decide) (by decide) (by decide) (by decide) (by decide) (len := 5) rfl (by decide) (lay' := Ly8) rfl ?_
  refine aRun_ok hC hT 3 (cf' := (43, [(0, .ref 1)], [.int (10 : Int32), .ref 1], Ly9, (aClr (aClr (aClr (aClr S 2) 3) 4) 5))) (by rfl) ?_
  refine aNewA (N := 10) hC hT rfl (p1 := 127) (by decide +kernel) 0 (by decide) (by decide) (by decide) (by decide) (by decide) (len := 6) rfl (by decide) (lay' := Ly10) rfl ?_
  refine aRun_ok hC hT 3 (cf' := (51, [(0, .ref 1)], [.int (40 : Int32), .ref 1], Ly11, (aClr (aClr (aClr (aClr (aClr S 2) 3) 4) 5) 6))) (by rfl) ?_
  refine aNewA (N := 40) hC hT rfl (p1 := 127) (by decide +kernel) 0 (by decide) (by decide) (by decide) (by decide) (by decide) (len := 7) rfl (by decide) (lay' := Ly12) rfl ?_
  refine aRun_ok hC hT 1 (cf' := (56, [(0, .ref 1)], [], Ly13, (aClr (aClr (aClr (aClr (aClr (aClr S 2) 3) 4) 5) 6) 7))) (by rfl) ?_
  subst hf
  exact aRetV hC hT hF rfl rfl
def J7_fill_53178_10_c14_b5 (N : Nat) (rec5 : Int32 → Int32 → Int32 → aSt → Option (aSt)) (v1 : Int32) (v2 : Int32) (v3 : Int32) (S : aSt) : Option (aSt) := (if v3 ≤ v2 then some (S) else (if aIx v2 20 = true then (rec5 v1 (v2 + (1 : Int32)) v3 (aA S 10 (upd (S.2.2 10) v2.toNatClampNeg v1))) else none))
set_option maxHeartbeats 4000000 in
set_option maxRecDepth 100000 in
theorem J7_fill_53178_10_c14_b5_ok {C : aC} {N : Nat} {rec5 : Int32 → Int32 → Int32 → aSt → Option (aSt)} (hC : aCx C M_J7_fill_53178) {r : aSt} (hF : aFin C none Ly25 r 0 0) (hrec5 : ∀ (v1 : Int32) (v2 : Int32) (v3 : Int32) (S : aSt), rec5 v1 v2 v3 S = (some r) → aX C M_J7_fill_53178 0 0 (5, [(0, .ref 10), (1, .int v1), (2, .int v2), (3, .int v3)], [], Ly25, S)) (v1 : Int32) (v2 : Int32) (v3 : Int32) (S : aSt) (hf : J7_fill_53178_10_c14_b5 N rec5 v1 v2 v3 S = (some r)) : aX C M_J7_fill_53178 0 0 (5, [(0, .ref 10), (1, .int v1), (2, .int v2), (3, .int v3)], [], Ly25, S) := by
  have hT := ok_J7_fill_53178
  unfold J7_fill_53178_10_c14_b5 at hf
  refine aRun_ok hC hT 2 (cf' := (7, [(0, .ref 10), (1, .int v1), (2, .int v2), (3, .int v3)], [.int v3, .int v2], Ly25, S)) (by rfl) ?_
  refine aCmp_ge hC hT (tgt := 20) rfl (by decide) (fun hc1 => ?_) (fun hc1 => ?_)
  · have hf := aIfT hf hc1
    have e9 := Option.some.inj hf; subst e9
    exact aRetV hC hT hF rfl rfl
  · have hf := aIfF hf hc1
    refine aRun_ok hC hT 3 (cf' := (13, [(0, .ref 10), (1, .int v1), (2, .int v2), (3, .int v3)], [.int v1, .int v2, .ref 10], Ly25, S)) (by rfl) ?_
    obtain ⟨hin2, hf⟩ := aGdE hf
    refine aIast hC hT rfl (by decide) (by rfl) hin2 ?_
    refine aRun_ok hC hT 2 (cf' := (5, [(2, .int (v2 + (1 : Int32))), (0, .ref 10), (1, .int v1), (3, .int v3)], [], Ly25, (aA S 10 (upd (S.2.2 10) v2.toNatClampNeg v1)))) (by rfl) ?_
    refine aLocs [1, 2, 0, 3] (lv' := [(0, .ref 10), (1, .int v1), (2, .int (v2 + (1 : Int32))), (3, .int v3)]) rfl ?_
    exact hrec5 v1 (v2 + (1 : Int32)) v3 (aA S 10 (upd (S.2.2 10) v2.toNatClampNeg v1)) hf
def J7_fill_53178_10_c14_l5 (N : Nat) : Nat → Int32 → Int32 → Int32 → aSt → Option (aSt)
  | 0 => fun _ _ _ _ => none
  | n + 1 => J7_fill_53178_10_c14_b5 N (J7_fill_53178_10_c14_l5 N n)
theorem J7_fill_53178_10_c14_l5_ok {C : aC} {N : Nat} (hC : aCx C M_J7_fill_53178) {r : aSt} (hF : aFin C none Ly25 r 0 0) : ∀ (n : Nat) (v1 : Int32) (v2 : Int32) (v3 : Int32) (S : aSt), J7_fill_53178_10_c14_l5 N n v1 v2 v3 S = (some r) → aX C M_J7_fill_53178 0 0 (5, [(0, .ref 10), (1, .int v1), (2, .int v2), (3, .int v3)], [], Ly25, S)
  | 0, _, _, _, _,  h => nomatch (show (none : Option (aSt)) = some _ from h)
  | n + 1, v1, v2, v3, S,  h => J7_fill_53178_10_c14_b5_ok hC hF (fun v1 v2 v3 S h => J7_fill_53178_10_c14_l5_ok hC hF n v1 v2 v3 S h) v1 v2 v3 S h
def J7_fill_53178_10_c14 (N : Nat) (a1 : Int32) (S : aSt) : Option (aSt) := (J7_fill_53178_10_c14_l5 N N a1 (0 : Int32) (20 : Int32) S)
set_option maxHeartbeats 4000000 in
set_option maxRecDepth 100000 in
theorem J_J7_fill_53178_10_c14 (l : Launch) (g : aWg) (N : Nat) (a1 : Int32) (S : aSt) {r : aSt} (hf : J7_fill_53178_10_c14 N a1 S = (some r)) : aJ l g yJ7_fill_53178 M_J7_fill_53178 [.ref 10, .int a1] Ly25 S none Ly25 r 0 0 := by
  refine aJ_of (by decide +kernel) rfl (Nat.le_of_ble_eq_true rfl) (fun h => nomatch h) ?_
  intro C hg hl hC hz hF
  subst hg; subst hl
  have hT := ok_J7_fill_53178
  unfold J7_fill_53178_10_c14 at hf
  show aX C M_J7_fill_53178 0 0 (0, [(0, .ref 10), (1, .int a1)], [], Ly25, S)
  refine aRun_ok hC hT 5 (cf' := (5, [(3, .int (20 : Int32)), (2, .int (0 : Int32)), (0, .ref 10), (1, .int a1)], [], Ly25, S)) (by rfl) ?_
  refine aLocs [2, 3, 1, 0] (lv' := [(0, .ref 10), (1, .int a1), (2, .int (0 : Int32)), (3, .int (20 : Int32))]) rfl ?_
  exact J7_fill_53178_10_c14_l5_ok hC hF N a1 (0 : Int32) (20 : Int32) S hf
def X2_init_8_c9 (N : Nat) (S : aSt) : Option (aSt) := (Option.bind (J7_fill_53178_10_c14 N (1 : Int32) (aClr (aClr (aClr (aClr (aClr (aI (aI (aI S 8 1 (1 : Int32)) 8 2 (1 : Int32)) 8 3 (1 : Int32)) 9) 10) 11) 12) 13)) (fun w1 => some (w1)))
set_option maxHeartbeats 4000000 in
set_option maxRecDepth 100000 in
theorem J_X2_init_8_c9 (l : Launch) (g : aWg) (N : Nat) (S : aSt) {r : aSt} (hf : X2_init_8_c9 N S = (some r)) : aJ l g yX2_init M_X2_init [.ref 8] Ly15 S none Ly25 r 5 282 := by
  refine aJ_of (by decide +kernel) rfl (Nat.le_of_ble_eq_true rfl) (fun _ => rfl) ?_
  intro C hg hl hC hz hF
  subst hg; subst hl
  have hT := ok_X2_init
  unfold X2_init_8_c9 at hf
  show aX C M_X2_init 0 0 (0, [(0, .ref 8)], [], Ly15, S)
  refine aRun_ok hC hT 1 (cf' := (1, [(0, .ref 8)], [.ref 8], Ly15, S)) (by rfl) ?_
  refine aObjI hC hT rfl (p1 := 133) (p2 := 88) (p3 := 89) (by decide +kernel) (by decide +kernel) (by decide +kernel) (by decide) (by decide) ?_
  refine aRun_ok hC hT 11 (cf' := (23, [(0, .ref 8)], [.int (150 : Int32), .ref 8], Ly15, (aI (aI (aI S 8 1 (1 : Int32)) 8 2 (1 : Int32)) 8 3 (1 : Int32)))) (by rfl) ?_
  refine aNewA (N := 150) hC hT rfl (p1 := 127) (by decide +kernel) 0 (by decide) (by decide) (by decide) (by decide) (by decide) (len := 9) rfl (by decide) (lay' := Ly16) rfl ?_
  refine aRun_ok hC hT 3 (cf' := (31, [(0, .ref 8)], [.int (20 : Int32), .ref 8], Ly17, (aClr (aI (aI (aI S 8 1 (1 : Int32)) 8 2 (1 : Int32)) 8 3 (1 : Int32)) 9))) (by rfl) ?_
  refine aNewA (N := 20) hC hT rfl (p1 := 127) (by decide +kernel) 0 (by decide) (by decide) (by decide) (by decide) (by decide) (len := 10) rfl (by decide) (lay' := Ly18) rfl ?_
  refine aRun_ok hC hT 3 (cf' := (39, [(0, .ref 8)], [.int (100 : Int32), .ref 8], Ly19, (aClr (aClr (aI (aI (aI S 8 1 (1 : Int32)) 8 2 (1 : Int32)) 8 3 (1 : Int32)) 9) 10))) (by rfl) ?_
  refine aNewA (N := 100) hC hT rfl (p1 := 127) (by decide +kernel) 0 (by decide) (by decide) (by decide) (by decide) (by decide) (len := 11) rfl (by decide) (lay' := Ly20) rfl ?_
  refine aRun_ok hC hT 3 (cf' := (47, [(0, .ref 8)], [.int (6 : Int32), .ref 8], Ly21, (aClr (aClr (aClr (aI (aI (aI S 8 1 (1 : Int32)) 8 2 (1 : Int32)) 8 3 (1 : Int32)) 9) 10) 11))) (by rfl) ?_
  refine aNewA (N := 6) hC hT rfl (p1 := 127) (by decide +kernel) 0 (by decide) (by decide) (by decide) (by decide) (by decide) (len := 12) rfl (by decide) (lay' := Ly22) rfl ?_
  refine aRun_ok hC hT 3 (cf' := (55, [(0, .ref 8)], [.int (6 : Int32), .ref 8], Ly23, (aClr (aClr (aClr (aClr (aI (aI (aI S 8 1 (1 : Int32)) 8 2 (1 : Int32)) 8 3 (1 : Int32)) 9) 10) 11) 12))) (by rfl) ?_
  refine aNewA (N := 6) hC hT rfl (p1 := 177) (by decide +kernel) 1 (by decide) (by decide) (by decide) (by decide) (by decide) (len := 13) rfl (by decide) (lay' := Ly24) rfl ?_
  refine aRun_ok hC hT 4 (cf' := (65, [(0, .ref 8)], [.int (1 : Int32), .ref 10], Ly25, (aClr (aClr (aClr (aClr (aClr (aI (aI (aI S 8 1 (1 : Int32)) 8 2 (1 : Int32)) 8 3 (1 : Int32)) 9) 10) 11) 12) 13))) (by rfl) ?_
  obtain ⟨w1, ew2, hf⟩ := aBnE hf
  refine aCallS (As := [.ref 10, .int (1 : Int32)]) (rest := []) hC hT rfl k_X2_init_38.1 _ k_X2_init_38.2 (by rfl) (Nat.le_of_ble_eq_true rfl) (by decide) (J_J7_fill_53178_10_c14 C.2.2.1 C.1 N (1 : Int32) (aClr (aClr (aClr (aClr (aClr (aI (aI (aI S 8 1 (1 : Int32)) 8 2 (1 : Int32)) 8 3 (1 : Int32)) 9) 10) 11) 12) 13) ew2) ?_
  have e9 := Option.some.inj hf; subst e9
  exact aRetV hC hT hF rfl rfl
def X8_init_14_8_c15 (S : aSt) : aSt := (aClr (aClr (aClr (aClr (aClr (aClr (aClr S 15) 16) 17) 18) 19) 20) 21)
set_option maxHeartbeats 4000000 in
set_option maxRecDepth 100000 in
theorem J_X8_init_14_8_c15 (l : Launch) (g : aWg) (S : aSt) {r : aSt} (hf : X8_init_14_8_c15 S = r) : aJ l g yX8_init M_X8_init [.ref 14, .ref 8] Ly27 S none Ly41 r 7 12547 := by
  refine aJ_of (by decide +kernel) rfl (Nat.le_of_ble_eq_true rfl) (fun _ => rfl) ?_
  intro C hg hl hC hz hF
  subst hg; subst hl
  have hT := ok_X8_init
  unfold X8_init_14_8_c15 at hf
  show aX C M_X8_init 0 0 (0, [(0, .ref 14), (1, .ref 8)], [], Ly27, S)
  refine aRun_ok hC hT 1 (cf' := (1, [(0, .ref 14), (1, .ref 8)], [.ref 14], Ly27, S)) (by rfl) ?_
  refine aObjI hC hT rfl (p1 := 183) (p2 := 88) (p3 := 89) (by decide +kernel) (by decide +kernel) (by decide +kernel) (by decide) (by decide) ?_
  refine aRun_ok hC hT 2 (cf' := (8, [(0, .ref 14), (1, .ref 8)], [.int (1921 : Int32), .ref 14], Ly27, S)) (by rfl) ?_
  refine aNewA (N := 1921) hC hT rfl (p1 := 127) (by decide +kernel) 0 (by decide) (by decide) (by decide) (by decide) (by decide) (len := 15) rfl (by decide) (lay' := Ly28) rfl ?_
  refine aRun_ok hC hT 3 (cf' := (17, [(0, .ref 14), (1, .ref 8)], [.int (1921 : Int32), .ref 14], Ly29, (aClr S 15))) (by rfl) ?_
  refine aNewA (N := 1921) hC hT rfl (p1 := 127) (by decide +kernel) 0 (by decide) (by decide) (by decide) (by decide) (by decide) (len := 16) rfl (by decide) (lay' := Ly30) rfl ?_
  refine aRun_ok hC hT 3 (cf' := (26, [(0, .ref 14), (1, .ref 8)], [.int (1921 : Int32), .ref 14], Ly31, (aClr (aClr S 15) 16))) (by rfl) ?_
  refine aNewA (N := 1921) hC hT rfl (p1 := 127) (by decide +kernel) 0 (by decide) (by decide) (by decide) (by decide) (by decide) (len := 17) rfl (by decide) (lay' := Ly32) rfl ?_
  refine aRun_ok hC hT 3 (cf' := (35, [(0, .ref 14), (1, .ref 8)], [.int (1921 : Int32), .ref 14], Ly33, (aClr (aClr (aClr S 15) 16) 17))) (by rfl) ?_
  refine aNewA (N := 1921) hC hT rfl (p1 := 127) (by decide +kernel) 0 (by decide) (by decide) (by decide) (by decide) (by decide) (len := 18) rfl (by decide) (lay' := Ly34) rfl ?_
  refine aRun_ok hC hT 3 (cf' := (44, [(0, .ref 14), (1, .ref 8)], [.int (1921 : Int32), .ref 14], Ly35, (aClr (aClr (aClr (aClr S 15) 16) 17) 18))) (by rfl) ?_
  refine aNewA (N := 1921) hC hT rfl (p1 := 127) (by decide +kernel) 0 (by decide) (by decide) (by decide) (by decide) (by decide) (len := 19) rfl (by decide) (lay' := Ly36) rfl ?_
  refine aRun_ok hC hT 3 (cf' := (53, [(0, .ref 14), (1, .ref 8)], [.int (1021 : Int32), .ref 14], Ly37, (aClr (aClr (aClr (aClr (aClr S 15) 16) 17) 18) 19))) (by rfl) ?_
  refine aNewA (N := 1021) hC hT rfl (p1 := 127) (by decide +kernel) 0 (by decide) (by decide) (by decide) (by decide) (by decide) (len := 20) rfl (by decide) (lay' := Ly38) rfl ?_
  refine aRun_ok hC hT 3 (cf' := (62, [(0, .ref 14), (1, .ref 8)], [.int (1921 : Int32), .ref 14], Ly39, (aClr (aClr (aClr (aClr (aClr (aClr S 15) 16) 17) 18) 19) 20))) (by rfl) ?_
  refine aNewA (N := 1921) hC hT rfl (p1 := 127) (by decide +kernel) 0 (by decide) (by decide) (by decide) (by decide) (by decide) (len := 21) rfl (by decide) (lay' := Ly40) rfl ?_
  refine aRun_ok hC hT 4 (cf' := (72, [(0, .ref 14), (1, .ref 8)], [], Ly41, (aClr (aClr (aClr (aClr (aClr (aClr (aClr S 15) 16) 17) 18) 19) 20) 21))) (by rfl) ?_
  subst hf
  exact aRetV hC hT hF rfl rfl
def X7_init_22_8_14_c23 (S : aSt) : aSt := (aI (aClr (aClr S 23) 24) 22 4 (0 : Int32))
set_option maxHeartbeats 4000000 in
set_option maxRecDepth 100000 in
theorem J_X7_init_22_8_14_c23 (l : Launch) (g : aWg) (S : aSt) {r : aSt} (hf : X7_init_22_8_14_c23 S = r) : aJ l g yX7_init M_X7_init [.ref 22, .ref 8, .ref 14, .int (0 : Int32)] Ly43 S none Ly47 r 2 163 := by
  refine aJ_of (by decide +kernel) rfl (Nat.le_of_ble_eq_true rfl) (fun _ => rfl) ?_
  intro C hg hl hC hz hF
  subst hg; subst hl
  have hT := ok_X7_init
  unfold X7_init_22_8_14_c23 at hf
  show aX C M_X7_init 0 0 (0, [(0, .ref 22), (1, .ref 8), (2, .ref 14), (3, .int (0 : Int32))], [], Ly43, S)
  refine aRun_ok hC hT 1 (cf' := (1, [(0, .ref 22), (1, .ref 8), (2, .ref 14), (3, .int (0 : Int32))], [.ref 22], Ly43, S)) (by rfl) ?_
  refine aObjI hC hT rfl (p1 := 219) (p2 := 88) (p3 := 89) (by decide +kernel) (by decide +kernel) (by decide +kernel) (by decide) (by decide) ?_
  refine aRun_ok hC hT 2 (cf' := (8, [(0, .ref 22), (1, .ref 8), (2, .ref 14), (3, .int (0 : Int32))], [.int (157 : Int32), .ref 22], Ly43, S)) (by rfl) ?_
  refine aNewA (N := 157) hC hT rfl (p1 := 127) (by decide +kernel) 0 (by decide) (by decide) (by decide) (by decide) (by decide) (len := 23) rfl (by decide) (lay' := Ly44) rfl ?_
  refine aRun_ok hC hT 3 (cf' := (16, [(0, .ref 22), (1, .ref 8), (2, .ref 14), (3, .int (0 : Int32))], [.int (6 : Int32), .ref 22], Ly45, (aClr S 23))) (by rfl) ?_
  refine aNewA (N := 6) hC hT rfl (p1 := 127) (by decide +kernel) 0 (by decide) (by decide) (by decide) (by decide) (by decide) (len := 24) rfl (by decide) (lay' := Ly46) rfl ?_
  refine aRun_ok hC hT 10 (cf' := (36, [(0, .ref 22), (1, .ref 8), (2, .ref 14), (3, .int (0 : Int32))], [], Ly47, (aI (aClr (aClr S 23) 24) 22 4 (0 : Int32)))) (by rfl) ?_
  subst hf
  exact aRetV hC hT hF rfl rfl
def X7_init_25_8_14_c26 (S : aSt) : aSt := (aI (aClr (aClr S 26) 27) 25 4 (1 : Int32))
set_option maxHeartbeats 4000000 in
set_option maxRecDepth 100000 in
theorem J_X7_init_25_8_14_c26 (l : Launch) (g : aWg) (S : aSt) {r : aSt} (hf : X7_init_25_8_14_c26 S = r) : aJ l g yX7_init M_X7_init [.ref 25, .ref 8, .ref 14, .int (1 : Int32)] Ly49 S none Ly53 r 2 163 := by
  refine aJ_of (by decide +kernel) rfl (Nat.le_of_ble_eq_true rfl) (fun _ => rfl) ?_
  intro C hg hl hC hz hF
  subst hg; subst hl
  have hT := ok_X7_init
  unfold X7_init_25_8_14_c26 at hf
  show aX C M_X7_init 0 0 (0, [(0, .ref 25), (1, .ref 8), (2, .ref 14), (3, .int (1 : Int32))], [], Ly49, S)
  refine aRun_ok hC hT 1 (cf' := (1, [(0, .ref 25), (1, .ref 8), (2, .ref 14), (3, .int (1 : Int32))], [.ref 25], Ly49, S)) (by rfl) ?_
  refine aObjI hC hT rfl (p1 := 219) (p2 := 88) (p3 := 89) (by decide +kernel) (by decide +kernel) (by decide +kernel) (by decide) (by decide) ?_
  refine aRun_ok hC hT 2 (cf' := (8, [(0, .ref 25), (1, .ref 8), (2, .ref 14), (3, .int (1 : Int32))], [.int (157 : Int32), .ref 25], Ly49, S)) (by rfl) ?_
  refine aNewA (N := 157) hC hT rfl (p1 := 127) (by decide +kernel) 0 (by decide) (by decide) (by decide) (by decide) (by decide) (len := 26) rfl (by decide) (lay' := Ly50) rfl ?_
  refine aRun_ok hC hT 3 (cf' := (16, [(0, .ref 25), (1, .ref 8), (2, .ref 14), (3, .int (1 : Int32))], [.int (6 : Int32), .ref 25], Ly51, (aClr S 26))) (by rfl) ?_
  refine aNewA (N := 6) hC hT rfl (p1 := 127) (by decide +kernel) 0 (by decide) (by decide) (by decide) (by decide) (by decide) (len := 27) rfl (by decide) (lay' := Ly52) rfl ?_
  refine aRun_ok hC hT 10 (cf' := (36, [(0, .ref 25), (1, .ref 8), (2, .ref 14), (3, .int (1 : Int32))], [], Ly53, (aI (aClr (aClr S 26) 27) 25 4 (1 : Int32)))) (by rfl) ?_
  subst hf
  exact aRetV hC hT hF rfl rfl
def X5_init_28_14_c29 (S : aSt) : aSt := S
set_option maxHeartbeats 4000000 in
set_option maxRecDepth 100000 in
theorem J_X5_init_28_14_c29 (l : Launch) (g : aWg) (S : aSt) {r : aSt} (hf : X5_init_28_14_c29 S = r) : aJ l g yX5_init M_X5_init [.ref 28, .ref 14] Ly55 S none Ly56 r 0 0 := by
  refine aJ_of (by decide +kernel) rfl (Nat.le_of_ble_eq_true rfl) (fun _ => rfl) ?_
  intro C hg hl hC hz hF
  subst hg; subst hl
  have hT := ok_X5_init
  unfold X5_init_28_14_c29 at hf
  show aX C M_X5_init 0 0 (0, [(0, .ref 28), (1, .ref 14)], [], Ly55, S)
  refine aRun_ok hC hT 1 (cf' := (1, [(0, .ref 28), (1, .ref 14)], [.ref 28], Ly55, S)) (by rfl) ?_
  refine aObjI hC hT rfl (p1 := 250) (p2 := 88) (p3 := 89) (by decide +kernel) (by decide +kernel) (by decide +kernel) (by decide) (by decide) ?_
  refine aRun_ok hC hT 3 (cf' := (9, [(0, .ref 28), (1, .ref 14)], [], Ly56, S)) (by rfl) ?_
  subst hf
  exact aRetV hC hT hF rfl rfl
def X5_init_29_14_c30 (S : aSt) : aSt := S
set_option maxHeartbeats 4000000 in
set_option maxRecDepth 100000 in
theorem J_X5_init_29_14_c30 (l : Launch) (g : aWg) (S : aSt) {r : aSt} (hf : X5_init_29_14_c30 S = r) : aJ l g yX5_init M_X5_init [.ref 29, .ref 14] Ly58 S none Ly59 r 0 0 := by
  refine aJ_of (by decide +kernel) rfl (Nat.le_of_ble_eq_true rfl) (fun _ => rfl) ?_
  intro C hg hl hC hz hF
  subst hg; subst hl
  have hT := ok_X5_init
  unfold X5_init_29_14_c30 at hf
  show aX C M_X5_init 0 0 (0, [(0, .ref 29), (1, .ref 14)], [], Ly58, S)
  refine aRun_ok hC hT 1 (cf' := (1, [(0, .ref 29), (1, .ref 14)], [.ref 29], Ly58, S)) (by rfl) ?_
  refine aObjI hC hT rfl (p1 := 250) (p2 := 88) (p3 := 89) (by decide +kernel) (by decide +kernel) (by decide +kernel) (by decide) (by decide) ?_
  refine aRun_ok hC hT 3 (cf' := (9, [(0, .ref 29), (1, .ref 14)], [], Ly59, S)) (by rfl) ?_
  subst hf
  exact aRetV hC hT hF rfl rfl
def X3_init_30_8_14_22_c31 (S : aSt) : aSt := (aClr (aClr (aClr S 31) 32) 33)
set_option maxHeartbeats 4000000 in
set_option maxRecDepth 100000 in
theorem J_X3_init_30_8_14_22_c31 (l : Launch) (g : aWg) (S : aSt) {r : aSt} (hf : X3_init_30_8_14_22_c31 S = r) : aJ l g yX3_init M_X3_init [.ref 30, .ref 8, .ref 14, .ref 22] Ly61 S none Ly67 r 3 90 := by
  refine aJ_of (by decide +kernel) rfl (Nat.le_of_ble_eq_true rfl) (fun _ => rfl) ?_
  intro C hg hl hC hz hF
  subst hg; subst hl
  have hT := ok_X3_init
  unfold X3_init_30_8_14_22_c31 at hf
  show aX C M_X3_init 0 0 (0, [(0, .ref 30), (1, .ref 8), (2, .ref 14), (3, .ref 22)], [], Ly61, S)
  refine aRun_ok hC hT 1 (cf' := (1, [(0, .ref 30), (1, .ref 8), (2, .ref 14), (3, .ref 22)], [.ref 30], Ly61, S)) (by rfl) ?_
  refine aObjI hC hT rfl (p1 := 279) (p2 := 88) (p3 := 89) (by decide +kernel) (by decide +kernel) (by decide +kernel) (by decide) (by decide) ?_
  refine aRun_ok hC hT 2 (cf' := (7, [(0, .ref 30), (1, .ref 8), (2, .ref 14), (3, .ref 22)], [.int (30 : Int32), .ref 30], Ly61, S)) (by rfl) ?_
  refine aNewA (N := 30) hC hT rfl (p1 := 127) (by decide +kernel) 0 (by decide) (by decide) (by decide) (by decide) (by decide) (len := 31) rfl (by decide) (lay' := Ly62) rfl ?_
  refine aRun_ok hC hT 3 (cf' := (15, [(0, .ref 30), (1, .ref 8), (2, .ref 14), (3, .ref 22)], [.int (30 : Int32), .ref 30], Ly63, (aClr S 31))) (by rfl) ?_
  refine aNewA (N := 30) hC hT rfl (p1 := 127) (by decide +kernel) 0 (by decide) (by decide) (by decide) (by decide) (by decide) (len := 32) rfl (by decide) (lay' := Ly64) rfl ?_
  refine aRun_ok hC hT 3 (cf' := (23, [(0, .ref 30), (1, .ref 8), (2, .ref 14), (3, .ref 22)], [.int (30 : Int32), .ref 30], Ly65, (aClr (aClr S 31) 32))) (by rfl) ?_
  refine aNewA (N := 30) hC hT rfl (p1 := 127) (by decide +kernel) 0 (by decide) (by decide) (by decide) (by decide) (by decide) (len := 33) rfl (by decide) (lay' := Ly66) rfl ?_
  refine aRun_ok hC hT 10 (cf' := (43, [(0, .ref 30), (1, .ref 8), (2, .ref 14), (3, .ref 22)], [], Ly67, (aClr (aClr (aClr S 31) 32) 33))) (by rfl) ?_
  subst hf
  exact aRetV hC hT hF rfl rfl
def X3_init_34_8_14_25_c35 (S : aSt) : aSt := (aClr (aClr (aClr S 35) 36) 37)
set_option maxHeartbeats 4000000 in
set_option maxRecDepth 100000 in
theorem J_X3_init_34_8_14_25_c35 (l : Launch) (g : aWg) (S : aSt) {r : aSt} (hf : X3_init_34_8_14_25_c35 S = r) : aJ l g yX3_init M_X3_init [.ref 34, .ref 8, .ref 14, .ref 25] Ly69 S none Ly75 r 3 90 := by
  refine aJ_of (by decide +kernel) rfl (Nat.le_of_ble_eq_true rfl) (fun _ => rfl) ?_
  intro C hg hl hC hz hF
  subst hg; subst hl
  have hT := ok_X3_init
  unfold X3_init_34_8_14_25_c35 at hf
  show aX C M_X3_init 0 0 (0, [(0, .ref 34), (1, .ref 8), (2, .ref 14), (3, .ref 25)], [], Ly69, S)
  refine aRun_ok hC hT 1 (cf' := (1, [(0, .ref 34), (1, .ref 8), (2, .ref 14), (3, .ref 25)], [.ref 34], Ly69, S)) (by rfl) ?_
  refine aObjI hC hT rfl (p1 := 279) (p2 := 88) (p3 := 89) (by decide +kernel) (by decide +kernel) (by decide +kernel) (by decide) (by decide) ?_
  refine aRun_ok hC hT 2 (cf' := (7, [(0, .ref 34), (1, .ref 8), (2, .ref 14), (3, .ref 25)], [.int (30 : Int32), .ref 34], Ly69, S)) (by rfl) ?_
  refine aNewA (N := 30) hC hT rfl (p1 := 127) (by decide +kernel) 0 (by decide) (by decide) (by decide) (by decide) (by decide) (len := 35) rfl (by decide) (lay' := Ly70) rfl ?_
  refine aRun_ok hC hT 3 (cf' := (15, [(0, .ref 34), (1, .ref 8), (2, .ref 14), (3, .ref 25)], [.int (30 : Int32), .ref 34], Ly71, (aClr S 35))) (by rfl) ?_
  refine aNewA (N := 30) hC hT rfl (p1 := 127) (by decide +kernel) 0 (by decide) (by decide) (by decide) (by decide) (by decide) (len := 36) rfl (by decide) (lay' := Ly72) rfl ?_
  refine aRun_ok hC hT 3 (cf' := (23, [(0, .ref 34), (1, .ref 8), (2, .ref 14), (3, .ref 25)], [.int (30 : Int32), .ref 34], Ly73, (aClr (aClr S 35) 36))) (by rfl) ?_
  refine aNewA (N := 30) hC hT rfl (p1 := 127) (by decide +kernel) 0 (by decide) (by decide) (by decide) (by decide) (by decide) (len := 37) rfl (by decide) (lay' := Ly74) rfl ?_
  refine aRun_ok hC hT 10 (cf' := (43, [(0, .ref 34), (1, .ref 8), (2, .ref 14), (3, .ref 25)], [], Ly75, (aClr (aClr (aClr S 35) 36) 37))) (by rfl) ?_
  subst hf
  exact aRetV hC hT hF rfl rfl
def X4_init_38_8_c39 (S : aSt) : aSt := (aClr (aClr (aClr S 39) 40) 41)
set_option maxHeartbeats 4000000 in
set_option maxRecDepth 100000 in
theorem J_X4_init_38_8_c39 (l : Launch) (g : aWg) (S : aSt) {r : aSt} (hf : X4_init_38_8_c39 S = r) : aJ l g yX4_init M_X4_init [.ref 38, .ref 8] Ly77 S none Ly83 r 3 350 := by
  refine aJ_of (by decide +kernel) rfl (Nat.le_of_ble_eq_true rfl) (fun _ => rfl) ?_
  intro C hg hl hC hz hF
  subst hg; subst hl
  have hT := ok_X4_init
  unfold X4_init_38_8_c39 at hf
  show aX C M_X4_init 0 0 (0, [(0, .ref 38), (1, .ref 8)], [], Ly77, S)
  refine aRun_ok hC hT 1 (cf' := (1, [(0, .ref 38), (1, .ref 8)], [.ref 38], Ly77, S)) (by rfl) ?_
  refine aObjI hC hT rfl (p1 := 316) (p2 := 88) (p3 := 89) (by decide +kernel) (by decide +kernel) (by decide +kernel) (by decide) (by decide) ?_
  refine aRun_ok hC hT 2 (cf' := (7, [(0, .ref 38), (1, .ref 8)], [.int (12 : Int32), .ref 38], Ly77, S)) (by rfl) ?_
  refine aNewA (N := 12) hC hT rfl (p1 := 127) (by decide +kernel) 0 (by decide) (by decide) (by decide) (by decide) (by decide) (len := 39) rfl (by decide) (lay' := Ly78) rfl ?_
  refine aRun_ok hC hT 3 (cf' := (16, [(0, .ref 38), (1, .ref 8)], [.int (169 : Int32), .ref 38], Ly79, (aClr S 39))) (by rfl) ?_
  refine aNewA (N := 169) hC hT rfl (p1 := 127) (by decide +kernel) 0 (by decide) (by decide) (by decide) (by decide) (by decide) (len := 40) rfl (by decide) (lay' := Ly80) rfl ?_
  refine aRun_ok hC hT 3 (cf' := (25, [(0, .ref 38), (1, .ref 8)], [.int (169 : Int32), .ref 38], Ly81, (aClr (aClr S 39) 40))) (by rfl) ?_
  refine aNewA (N := 169) hC hT rfl (p1 := 127) (by decide +kernel) 0 (by decide) (by decide) (by decide) (by decide) (by decide) (len := 41) rfl (by decide) (lay' := Ly82) rfl ?_
  refine aRun_ok hC hT 4 (cf' := (35, [(0, .ref 38), (1, .ref 8)], [], Ly83, (aClr (aClr (aClr S 39) 40) 41))) (by rfl) ?_
  subst hf
  exact aRetV hC hT hF rfl rfl
def X10_init_0_c1 (N : Nat) (S : aSt) : Option (aSt) := (aLet (X9_init_1_c2 (aClr S 1)) (fun w1 => (Option.bind (X2_init_8_c9 N (aClr w1 8)) (fun w3 => (aLet (X8_init_14_8_c15 (aClr w3 14)) (fun w5 => (aLet (X7_init_22_8_14_c23 (aClr w5 22)) (fun w7 => (aLet (X7_init_25_8_14_c26 (aClr w7 25)) (fun w9 => (aLet (X5_init_28_14_c29 (aClr w9 28)) (fun w11 => (aLet (X5_init_29_14_c30 (aClr w11 29)) (fun w13 => (aLet (X3_init_30_8_14_22_c31 (aClr w13 30)) (fun w15 => (aLet (X3_init_34_8_14_25_c35 (aClr w15 34)) (fun w17 => (aLet (X4_init_38_8_c39 (aClr w17 38)) (fun w19 => some ((aI w19 0 10 ((-1) : Int32)))))))))))))))))))))))
set_option maxHeartbeats 4000000 in
set_option maxRecDepth 100000 in
theorem J_X10_init_0_c1 (l : Launch) (g : aWg) (N : Nat) (S : aSt) {r : aSt} (hf : X10_init_0_c1 N S = (some r)) : aJ l g yX10_init M_X10_init [.ref 0] Ly0 S none Ly84 r 41 14615 := by
  refine aJ_of (by decide +kernel) rfl (Nat.le_of_ble_eq_true rfl) (fun _ => rfl) ?_
  intro C hg hl hC hz hF
  subst hg; subst hl
  have hT := ok_X10_init
  unfold X10_init_0_c1 at hf
  show aX C M_X10_init 0 0 (0, [(0, .ref 0)], [], Ly0, S)
  refine aRun_ok hC hT 1 (cf' := (1, [(0, .ref 0)], [.ref 0], Ly0, S)) (by rfl) ?_
  refine aObjI hC hT rfl (p1 := 87) (p2 := 88) (p3 := 89) (by decide +kernel) (by decide +kernel) (by decide +kernel) (by decide) (by decide) ?_
  refine aRun_ok hC hT 1 (cf' := (5, [(0, .ref 0)], [.ref 0], Ly0, S)) (by rfl) ?_
  refine aNew (ci := 6) hC hT rfl rfl (p1 := 90) (p2 := 91) (p3 := 65) (by decide +kernel) (by decide +kernel) (by decide +kernel) (by decide +kernel) (by decide) (len := 1) rfl (by decide) (kinds := [(1, 0), (1, 0), (0, 0), (0, 0), (0, 0), (0, 0), (0, 0), (0, 0), (1, 0)]) (by decide +kernel) (lay' := Ly1) rfl ?_
  refine aRun_ok hC hT 1 (cf' := (9, [(0, .ref 0)], [.ref 1, .ref 1, .ref 0], Ly1, (aClr S 1))) (by rfl) ?_
  obtain ⟨w1, ew2, hf⟩ := aLetE hf
  refine aCallIN (b := 1) (As := []) (rest := [.ref 1, .ref 0]) hC hT rfl k_X10_init_11.1 _ k_X10_init_11.2 (by rfl) (by rfl) (by decide) (by rfl) (Nat.le_of_ble_eq_true rfl) (by decide) (J_X9_init_1_c2 C.2.2.1 C.1  (aClr S 1) ew2) ?_
  refine aRun_ok hC hT 2 (cf' := (16, [(0, .ref 0)], [.ref 0], Ly14, w1)) (by rfl) ?_
  refine aNew (ci := 0) hC hT rfl rfl (p1 := 128) (p2 := 129) (p3 := 66) (by decide +kernel) (by decide +kernel) (by decide +kernel) (by decide +kernel) (by decide) (len := 8) rfl (by decide) (kinds := [(1, 0), (1, 0), (1, 0), (1, 0), (1, 0), (0, 0), (0, 0), (0, 0), (0, 0), (0, 0)]) (by decide +kernel) (lay' := Ly15) rfl ?_
  refine aRun_ok hC hT 1 (cf' := (20, [(0, .ref 0)], [.ref 8, .ref 8, .ref 0], Ly15, (aClr w1 8))) (by rfl) ?_
  obtain ⟨w3, ew4, hf⟩ := aBnE hf
  refine aCallI (b := 8) (As := []) (rest := [.ref 8, .ref 0]) hC hT rfl k_X10_init_18.1 _ k_X10_init_18.2 (by rfl) (by rfl) (by decide) (by rfl) (Nat.le_of_ble_eq_true rfl) (by decide) (J_X2_init_8_c9 C.2.2.1 C.1 N  (aClr w1 8) ew4) ?_
  refine aRun_ok hC hT 2 (cf' := (27, [(0, .ref 0)], [.ref 0], Ly26, w3)) (by rfl) ?_
  refine aNew (ci := 5) hC hT rfl rfl (p1 := 178) (p2 := 179) (p3 := 68) (by decide +kernel) (by decide +kernel) (by decide +kernel) (by decide +kernel) (by decide) (len := 14) rfl (by decide) (kinds := [(1, 0), (0, 0), (0, 0), (0, 0), (0, 0), (0, 0), (0, 0), (0, 0), (0, 0)]) (by decide +kernel) (lay' := Ly27) rfl ?_
  refine aRun_ok hC hT 3 (cf' := (35, [(0, .ref 0)], [.ref 8, .ref 14, .ref 14, .ref 0], Ly27, (aClr w3 14))) (by rfl) ?_
  obtain ⟨w5, ew6, hf⟩ := aLetE hf
  refine aCallI (b := 14) (As := [.ref 8]) (rest := [.ref 14, .ref 0]) hC hT rfl k_X10_init_25.1 _ k_X10_init_25.2 (by rfl) (by rfl) (by decide) (by rfl) (Nat.le_of_ble_eq_true rfl) (by decide) (J_X8_init_14_8_c15 C.2.2.1 C.1  (aClr w3 14) ew6) ?_
  refine aRun_ok hC hT 2 (cf' := (42, [(0, .ref 0)], [.ref 0], Ly42, w5)) (by rfl) ?_
  refine aNew (ci := 4) hC hT rfl rfl (p1 := 214) (p2 := 215) (p3 := 69) (by decide +kernel) (by decide +kernel) (by decide +kernel) (by decide +kernel) (by decide) (len := 22) rfl (by decide) (kinds := [(1, 0), (2, 0), (0, 0), (0, 0), (1, 0), (0, 0), (0, 0)]) (by decide +kernel) (lay' := Ly43) rfl ?_
  refine aRun_ok hC hT 6 (cf' := (55, [(0, .ref 0)], [.int (0 : Int32), .ref 14, .ref 8, .ref 22, .ref 22, .ref 0], Ly43, (aClr w5 22))) (by rfl) ?_
  obtain ⟨w7, ew8, hf⟩ := aLetE hf
  refine aCallI (b := 22) (As := [.ref 8, .ref 14, .int (0 : Int32)]) (rest := [.ref 22, .ref 0]) hC hT rfl k_X10_init_34.1 _ k_X10_init_34.2 (by rfl) (by rfl) (by decide) (by rfl) (Nat.le_of_ble_eq_true rfl) (by decide) (J_X7_init_22_8_14_c23 C.2.2.1 C.1  (aClr w5 22) ew8) ?_
  refine aRun_ok hC hT 2 (cf' := (62, [(0, .ref 0)], [.ref 0], Ly48, w7)) (by rfl) ?_
  refine aNew (ci := 4) hC hT rfl rfl (p1 := 214) (p2 := 215) (p3 := 69) (by decide +kernel) (by decide +kernel) (by decide +kernel) (by decide +kernel) (by decide) (len := 25) rfl (by decide) (kinds := [(1, 0), (2, 0), (0, 0), (0, 0), (1, 0), (0, 0), (0, 0)]) (by decide +kernel) (lay' := Ly49) rfl ?_
  refine aRun_ok hC hT 6 (cf' := (75, [(0, .ref 0)], [.int (1 : Int32), .ref 14, .ref 8, .ref 25, .ref 25, .ref 0], Ly49, (aClr w7 25))) (by rfl) ?_
  obtain ⟨w9, ew10, hf⟩ := aLetE hf
  refine aCallI (b := 25) (As := [.ref 8, .ref 14, .int (1 : Int32)]) (rest := [.ref 25, .ref 0]) hC hT rfl k_X10_init_34.1 _ k_X10_init_34.2 (by rfl) (by rfl) (by decide) (by rfl) (Nat.le_of_ble_eq_true rfl) (by decide) (J_X7_init_25_8_14_c26 C.2.2.1 C.1  (aClr w7 25) ew10) ?_
  refine aRun_ok hC hT 2 (cf' := (82, [(0, .ref 0)], [.ref 0], Ly54, w9)) (by rfl) ?_
  refine aNew (ci := 3) hC hT rfl rfl (p1 := 245) (p2 := 246) (p3 := 70) (by decide +kernel) (by decide +kernel) (by decide +kernel) (by decide +kernel) (by decide) (len := 28) rfl (by decide) (kinds := [(2, 0), (2, 0), (1, 0), (1, 0), (2, 0), (0, 0)]) (by decide +kernel) (lay' := Ly55) rfl ?_
  refine aRun_ok hC hT 3 (cf' := (90, [(0, .ref 0)], [.ref 14, .ref 28, .ref 28, .ref 0], Ly55, (aClr w9 28))) (by rfl) ?_
  obtain ⟨w11, ew12, hf⟩ := aLetE hf
  refine aCallI (b := 28) (As := [.ref 14]) (rest := [.ref 28, .ref 0]) hC hT rfl k_X10_init_46.1 _ k_X10_init_46.2 (by rfl) (by rfl) (by decide) (by rfl) (Nat.le_of_ble_eq_true rfl) (by decide) (J_X5_init_28_14_c29 C.2.2.1 C.1  (aClr w9 28) ew12) ?_
  refine aRun_ok hC hT 2 (cf' := (97, [(0, .ref 0)], [.ref 0], Ly57, w11)) (by rfl) ?_
  refine aNew (ci := 3) hC hT rfl rfl (p1 := 245) (p2 := 246) (p3 := 70) (by decide +kernel) (by decide +kernel) (by decide +kernel) (by decide +kernel) (by decide) (len := 29) rfl (by decide) (kinds := [(2, 0), (2, 0), (1, 0), (1, 0), (2, 0), (0, 0)]) (by decide +kernel) (lay' := Ly58) rfl ?_
  refine aRun_ok hC hT 3 (cf' := (105, [(0, .ref 0)], [.ref 14, .ref 29, .ref 29, .ref 0], Ly58, (aClr w11 29))) (by rfl) ?_
  obtain ⟨w13, ew14, hf⟩ := aLetE hf
  refine aCallI (b := 29) (As := [.ref 14]) (rest := [.ref 29, .ref 0]) hC hT rfl k_X10_init_46.1 _ k_X10_init_46.2 (by rfl) (by rfl) (by decide) (by rfl) (Nat.le_of_ble_eq_true rfl) (by decide) (J_X5_init_29_14_c30 C.2.2.1 C.1  (aClr w11 29) ew14) ?_
  refine aRun_ok hC hT 2 (cf' := (112, [(0, .ref 0)], [.ref 0], Ly60, w13)) (by rfl) ?_
  refine aNew (ci := 1) hC hT rfl rfl (p1 := 274) (p2 := 275) (p3 := 71) (by decide +kernel) (by decide +kernel) (by decide +kernel) (by decide +kernel) (by decide) (len := 30) rfl (by decide) (kinds := [(1, 0), (2, 0), (2, 0), (0, 0), (0, 0), (0, 0), (0, 0), (0, 0), (0, 0)]) (by decide +kernel) (lay' := Ly61) rfl ?_
  refine aRun_ok hC hT 7 (cf' := (128, [(0, .ref 0)], [.ref 22, .ref 14, .ref 8, .ref 30, .ref 30, .ref 0], Ly61, (aClr w13 30))) (by rfl) ?_
  obtain ⟨w15, ew16, hf⟩ := aLetE hf
  refine aCallI (b := 30) (As := [.ref 8, .ref 14, .ref 22]) (rest := [.ref 30, .ref 0]) hC hT rfl k_X10_init_58.1 _ k_X10_init_58.2 (by rfl) (by rfl) (by decide) (by rfl) (Nat.le_of_ble_eq_true rfl) (by decide) (J_X3_init_30_8_14_22_c31 C.2.2.1 C.1  (aClr w13 30) ew16) ?_
  refine aRun_ok hC hT 2 (cf' := (135, [(0, .ref 0)], [.ref 0], Ly68, w15)) (by rfl) ?_
  refine aNew (ci := 1) hC hT rfl rfl (p1 := 274) (p2 := 275) (p3 := 71) (by decide +kernel) (by decide +kernel) (by decide +kernel) (by decide +kernel) (by decide) (len := 34) rfl (by decide) (kinds := [(1, 0), (2, 0), (2, 0), (0, 0), (0, 0), (0, 0), (0, 0), (0, 0), (0, 0)]) (by decide +kernel) (lay' := Ly69) rfl ?_
  refine aRun_ok hC hT 7 (cf' := (151, [(0, .ref 0)], [.ref 25, .ref 14, .ref 8, .ref 34, .ref 34, .ref 0], Ly69, (aClr w15 34))) (by rfl) ?_
  obtain ⟨w17, ew18, hf⟩ := aLetE hf
  refine aCallI (b := 34) (As := [.ref 8, .ref 14, .ref 25]) (rest := [.ref 34, .ref 0]) hC hT rfl k_X10_init_58.1 _ k_X10_init_58.2 (by rfl) (by rfl) (by decide) (by rfl) (Nat.le_of_ble_eq_true rfl) (by decide) (J_X3_init_34_8_14_25_c35 C.2.2.1 C.1  (aClr w15 34) ew18) ?_
  refine aRun_ok hC hT 2 (cf' := (158, [(0, .ref 0)], [.ref 0], Ly76, w17)) (by rfl) ?_
  refine aNew (ci := 2) hC hT rfl rfl (p1 := 311) (p2 := 312) (p3 := 72) (by decide +kernel) (by decide +kernel) (by decide +kernel) (by decide +kernel) (by decide) (len := 38) rfl (by decide) (kinds := [(1, 0), (0, 0), (0, 0), (0, 0), (0, 0)]) (by decide +kernel) (lay' := Ly77) rfl ?_
  refine aRun_ok hC hT 3 (cf' := (166, [(0, .ref 0)], [.ref 8, .ref 38, .ref 38, .ref 0], Ly77, (aClr w17 38))) (by rfl) ?_
  obtain ⟨w19, ew20, hf⟩ := aLetE hf
  refine aCallI (b := 38) (As := [.ref 8]) (rest := [.ref 38, .ref 0]) hC hT rfl k_X10_init_70.1 _ k_X10_init_70.2 (by rfl) (by rfl) (by decide) (by rfl) (Nat.le_of_ble_eq_true rfl) (by decide) (J_X4_init_38_8_c39 C.2.2.1 C.1  (aClr w17 38) ew20) ?_
  refine aRun_ok hC hT 4 (cf' := (177, [(0, .ref 0)], [], Ly84, (aI w19 0 10 ((-1) : Int32)))) (by rfl) ?_
  have e9 := Option.some.inj hf; subst e9
  exact aRetV hC hT hF rfl rfl
def X11_init_42_c43_b158 (N : Nat) (rec158 : Int32 → aSt → Option (aSt)) (v1 : Int32) (S : aSt) : Option (aSt) := (if (20 : Int32) ≤ v1 then some (S) else (if aIx v1 20 = true then (rec158 (v1 + (1 : Int32)) (aA S 47 (upd (S.2.2 47) v1.toNatClampNeg (1 : Int32)))) else none))
set_option maxHeartbeats 4000000 in
set_option maxRecDepth 100000 in
theorem X11_init_42_c43_b158_ok {C : aC} {N : Nat} {rec158 : Int32 → aSt → Option (aSt)} (hC : aCx C M_X11_init) {r : aSt} (hF : aFin C none Ly117 r 16 13055) (hrec158 : ∀ (v1 : Int32) (S : aSt), rec158 v1 S = (some r) → aX C M_X11_init 16 13055 (158, [(0, .ref 42), (1, .int v1)], [], Ly117, S)) (v1 : Int32) (S : aSt) (hf : X11_init_42_c43_b158 N rec158 v1 S = (some r)) : aX C M_X11_init 16 13055 (158, [(0, .ref 42), (1, .int v1)], [], Ly117, S) := by
  have hT := ok_X11_init
  unfold X11_init_42_c43_b158 at hf
  refine aRun_ok hC hT 2 (cf' := (161, [(0, .ref 42), (1, .int v1)], [.int (20 : Int32), .int v1], Ly117, S)) (by rfl) ?_
  refine aCmp_ge hC hT (tgt := 177) rfl (by decide) (fun hc1 => ?_) (fun hc1 => ?_)
  · have hf := aIfT hf hc1
    have e9 := Option.some.inj hf; subst e9
    exact aRetV hC hT hF rfl rfl
  · have hf := aIfF hf hc1
    refine aRun_ok hC hT 4 (cf' := (170, [(0, .ref 42), (1, .int v1)], [.int (1 : Int32), .int v1, .ref 47], Ly117, S)) (by rfl) ?_
    obtain ⟨hin2, hf⟩ := aGdE hf
    refine aIast hC hT rfl (by decide) (by rfl) hin2 ?_
    refine aRun_ok hC hT 2 (cf' := (158, [(1, .int (v1 + (1 : Int32))), (0, .ref 42)], [], Ly117, (aA S 47 (upd (S.2.2 47) v1.toNatClampNeg (1 : Int32))))) (by rfl) ?_
    refine aLocs [1, 0] (lv' := [(0, .ref 42), (1, .int (v1 + (1 : Int32)))]) rfl ?_
    exact hrec158 (v1 + (1 : Int32)) (aA S 47 (upd (S.2.2 47) v1.toNatClampNeg (1 : Int32))) hf
def X11_init_42_c43_l158 (N : Nat) : Nat → Int32 → aSt → Option (aSt)
  | 0 => fun _ _ => none
  | n + 1 => X11_init_42_c43_b158 N (X11_init_42_c43_l158 N n)
theorem X11_init_42_c43_l158_ok {C : aC} {N : Nat} (hC : aCx C M_X11_init) {r : aSt} (hF : aFin C none Ly117 r 16 13055) : ∀ (n : Nat) (v1 : Int32) (S : aSt), X11_init_42_c43_l158 N n v1 S = (some r) → aX C M_X11_init 16 13055 (158, [(0, .ref 42), (1, .int v1)], [], Ly117, S)
  | 0, _, _,  h => nomatch (show (none : Option (aSt)) = some _ from h)
  | n + 1, v1, S,  h => X11_init_42_c43_b158_ok hC hF (fun v1 S h => X11_init_42_c43_l158_ok hC hF n v1 S h) v1 S h
def X11_init_42_c43 (N : Nat) (S : aSt) : Option (aSt) := (X11_init_42_c43_l158 N N (0 : Int32) (aClr (aClr (aClr (aClr (aClr (aClr (aClr (aClr (aClr (aClr (aI (aI (aI (aClr (aClr (aClr (aClr (aClr (aClr S 43) 44) 45) 46) 47) 48) 42 10 (1 : Int32)) 42 11 (1 : Int32)) 42 12 (1 : Int32)) 49) 50) 51) 52) 53) 54) 55) 56) 57) 58))
set_option maxHeartbeats 4000000 in
set_option maxRecDepth 100000 in
theorem J_X11_init_42_c43 (l : Launch) (g : aWg) (N : Nat) (S : aSt) {r : aSt} (hf : X11_init_42_c43 N S = (some r)) : aJ l g yX11_init M_X11_init [.ref 42] Ly85 S none Ly117 r 16 13055 := by
  refine aJ_of (by decide +kernel) rfl (Nat.le_of_ble_eq_true rfl) (fun _ => rfl) ?_
  intro C hg hl hC hz hF
  subst hg; subst hl
  have hT := ok_X11_init
  unfold X11_init_42_c43 at hf
  show aX C M_X11_init 0 0 (0, [(0, .ref 42)], [], Ly85, S)
  refine aRun_ok hC hT 1 (cf' := (1, [(0, .ref 42)], [.ref 42], Ly85, S)) (by rfl) ?_
  refine aObjI hC hT rfl (p1 := 956) (p2 := 88) (p3 := 89) (by decide +kernel) (by decide +kernel) (by decide +kernel) (by decide) (by decide) ?_
  refine aRun_ok hC hT 2 (cf' := (8, [(0, .ref 42)], [.int (200 : Int32), .ref 42], Ly85, S)) (by rfl) ?_
  refine aNewA (N := 200) hC hT rfl (p1 := 127) (by decide +kernel) 0 (by decide) (by decide) (by decide) (by decide) (by decide) (len := 43) rfl (by decide) (lay' := Ly86) rfl ?_
  refine aRun_ok hC hT 3 (cf' := (16, [(0, .ref 42)], [.int (50 : Int32), .ref 42], Ly87, (aClr S 43))) (by rfl) ?_
  refine aNewA (N := 50) hC hT rfl (p1 := 127) (by decide +kernel) 0 (by decide) (by decide) (by decide) (by decide) (by decide) (len := 44) rfl (by decide) (lay' := Ly88) rfl ?_
  refine aRun_ok hC hT 3 (cf' := (25, [(0, .ref 42)], [.int (150 : Int32), .ref 42], Ly89, (aClr (aClr S 43) 44))) (by rfl) ?_
  refine aNewA (N := 150) hC hT rfl (p1 := 127) (by decide +kernel) 0 (by decide) (by decide) (by decide) (by decide) (by decide) (len := 45) rfl (by decide) (lay' := Ly90) rfl ?_
  refine aRun_ok hC hT 3 (cf' := (33, [(0, .ref 42)], [.int (6 : Int32), .ref 42], Ly91, (aClr (aClr (aClr S 43) 44) 45))) (by rfl) ?_
  refine aNewA (N := 6) hC hT rfl (p1 := 127) (by decide +kernel) 0 (by decide) (by decide) (by decide) (by decide) (by decide) (len := 46) rfl (by decide) (lay' := Ly92) rfl ?_
  refine aRun_ok hC hT 3 (cf' := (41, [(0, .ref 42)], [.int (20 : Int32), .ref 42], Ly93, (aClr (aClr (aClr (aClr S 43) 44) 45) 46))) (by rfl) ?_
  refine aNewA (N := 20) hC hT rfl (p1 := 127) (by decide +kernel) 0 (by decide) (by decide) (by decide) (by decide) (by decide) (len := 47) rfl (by decide) (lay' := Ly94) rfl ?_
  refine aRun_ok hC hT 3 (cf' := (49, [(0, .ref 42)], [.int (100 : Int32), .ref 42], Ly95, (aClr (aClr (aClr (aClr (aClr S 43) 44) 45) 46) 47))) (by rfl) ?_
  refine aNewA (N := 100) hC hT rfl (p1 := 127) (by decide +kernel) 0 (by decide) (by decide) (by decide) (by decide) (by decide) (len := 48) rfl (by decide) (lay' := Ly96) rfl ?_
  refine aRun_ok hC hT 12 (cf' := (72, [(0, .ref 42)], [.int (12 : Int32), .ref 42], Ly97, (aI (aI (aI (aClr (aClr (aClr (aClr (aClr (aClr S 43) 44) 45) 46) 47) 48) 42 10 (1 : Int32)) 42 11 (1 : Int32)) 42 12 (1 : Int32)))) (by rfl) ?_
  refine aNewA (N := 12) hC hT rfl (p1 := 127) (by decide +kernel) 0 (by decide) (by decide) (by decide) (by decide) (by decide) (len := 49) rfl (by decide) (lay' := Ly98) rfl ?_
  refine aRun_ok hC hT 3 (cf' := (81, [(0, .ref 42)], [.int (2048 : Int32), .ref 42], Ly99, (aClr (aI (aI (aI (aClr (aClr (aClr (aClr (aClr (aClr S 43) 44) 45) 46) 47) 48) 42 10 (1 : Int32)) 42 11 (1 : Int32)) 42 12 (1 : Int32)) 49))) (by rfl) ?_
  refine aNewA (N := 2048) hC hT rfl (p1 := 127) (by decide +kernel) 0 (by decide) (by decide) (by decide) (by decide) (by decide) (len := 50) rfl (by decide) (lay' := Ly100) rfl ?_
  refine aRun_ok hC hT 3 (cf' := (90, [(0, .ref 42)], [.int (2048 : Int32), .ref 42], Ly101, (aClr (aClr (aI (aI (aI (aClr (aClr (aClr (aClr (aClr (aClr S 43) 44) 45) 46) 47) 48) 42 10 (1 : Int32)) 42 11 (1 : Int32)) 42 12 (1 : Int32)) 49) 50))) (by rfl) ?_
  refine aNewA (N := 2048) hC hT rfl (p1 := 127) (by decide +kernel) 0 (by decide) (by decide) (by decide) (by decide) (by decide) (len := 51) rfl (by decide) (lay' := Ly102) rfl ?_
  refine aRun_ok hC hT 3 (cf' := (99, [(0, .ref 42)], [.int (2048 : Int32), .ref 42], Ly103, (aClr (aClr (aClr (aI (aI (aI (aClr (aClr (aClr (aClr (aClr (aClr S 43) 44) 45) 46) 47) 48) 42 10 (1 : Int32)) 42 11 (1 : Int32)) 42 12 (1 : Int32)) 49) 50) 51))) (by rfl) ?_
  refine aNewA (N := 2048) hC hT rfl (p1 := 127) (by decide +kernel) 0 (by decide) (by decide) (by decide) (by decide) (by decide) (len := 52) rfl (by decide) (lay' := Ly104) rfl ?_
  refine aRun_ok hC hT 3 (cf' := (108, [(0, .ref 42)], [.int (2048 : Int32), .ref 42], Ly105, (aClr (aClr (aClr (aClr (aI (aI (aI (aClr (aClr (aClr (aClr (aClr (aClr S 43) 44) 45) 46) 47) 48) 42 10 (1 : Int32)) 42 11 (1 : Int32)) 42 12 (1 : Int32)) 49) 50) 51) 52))) (by rfl) ?_
  refine aNewA (N := 2048) hC hT rfl (p1 := 127) (by decide +kernel) 0 (by decide) (by decide) (by decide) (by decide) (by decide) (len := 53) rfl (by decide) (lay' := Ly106) rfl ?_
  refine aRun_ok hC hT 3 (cf' := (117, [(0, .ref 42)], [.int (2048 : Int32), .ref 42], Ly107, (aClr (aClr (aClr (aClr (aClr (aI (aI (aI (aClr (aClr (aClr (aClr (aClr (aClr S 43) 44) 45) 46) 47) 48) 42 10 (1 : Int32)) 42 11 (1 : Int32)) 42 12 (1 : Int32)) 49) 50) 51) 52) 53))) (by rfl) ?_
  refine aNewA (N := 2048) hC hT rfl (p1 := 127) (by decide +kernel) 0 (by decide) (by decide) (by decide) (by decide) (by decide) (len := 54) rfl (by decide) (lay' := Ly108) rfl ?_
  refine aRun_ok hC hT 3 (cf' := (126, [(0, .ref 42)], [.int (2048 : Int32), .ref 42], Ly109, (aClr (aClr (aClr (aClr (aClr (aClr (aI (aI (aI (aClr (aClr (aClr (aClr (aClr (aClr S 43) 44) 45) 46) 47) 48) 42 10 (1 : Int32)) 42 11 (1 : Int32)) 42 12 (1 : Int32)) 49) 50) 51) 52) 53) 54))) (by rfl) ?_
  refine aNewA (N := 2048) hC hT rfl (p1 := 127) (by decide +kernel) 0 (by decide) (by decide) (by decide) (by decide) (by decide) (len := 55) rfl (by decide) (lay' := Ly110) rfl ?_
  refine aRun_ok hC hT 3 (cf' := (134, [(0, .ref 42)], [.int (30 : Int32), .ref 42], Ly111, (aClr (aClr (aClr (aClr (aClr (aClr (aClr (aI (aI (aI (aClr (aClr (aClr (aClr (aClr (aClr S 43) 44) 45) 46) 47) 48) 42 10 (1 : Int32)) 42 11 (1 : Int32)) 42 12 (1 : Int32)) 49) 50) 51) 52) 53) 54) 55))) (by rfl) ?_
  refine aNewA (N := 30) hC hT rfl (p1 := 127) (by decide +kernel) 0 (by decide) (by decide) (by decide) (by decide) (by decide) (len := 56) rfl (by decide) (lay' := Ly112) rfl ?_
  refine aRun_ok hC hT 3 (cf' := (142, [(0, .ref 42)], [.int (30 : Int32), .ref 42], Ly113, (aClr (aClr (aClr (aClr (aClr (aClr (aClr (aClr (aI (aI (aI (aClr (aClr (aClr (aClr (aClr (aClr S 43) 44) 45) 46) 47) 48) 42 10 (1 : Int32)) 42 11 (1 : Int32)) 42 12 (1 : Int32)) 49) 50) 51) 52) 53) 54) 55) 56))) (by rfl) ?_
  refine aNewA (N := 30) hC hT rfl (p1 := 127) (by decide +kernel) 0 (by decide) (by decide) (by decide) (by decide) (by decide) (len := 57) rfl (by decide) (lay' := Ly114) rfl ?_
  refine aRun_ok hC hT 3 (cf' := (151, [(0, .ref 42)], [.int (169 : Int32), .ref 42], Ly115, (aClr (aClr (aClr (aClr (aClr (aClr (aClr (aClr (aClr (aI (aI (aI (aClr (aClr (aClr (aClr (aClr (aClr S 43) 44) 45) 46) 47) 48) 42 10 (1 : Int32)) 42 11 (1 : Int32)) 42 12 (1 : Int32)) 49) 50) 51) 52) 53) 54) 55) 56) 57))) (by rfl) ?_
  refine aNewA (N := 169) hC hT rfl (p1 := 127) (by decide +kernel) 0 (by decide) (by decide) (by decide) (by decide) (by decide) (len := 58) rfl (by decide) (lay' := Ly116) rfl ?_
  refine aRun_ok hC hT 3 (cf' := (158, [(1, .int (0 : Int32)), (0, .ref 42)], [], Ly117, (aClr (aClr (aClr (aClr (aClr (aClr (aClr (aClr (aClr (aClr (aI (aI (aI (aClr (aClr (aClr (aClr (aClr (aClr S 43) 44) 45) 46) 47) 48) 42 10 (1 : Int32)) 42 11 (1 : Int32)) 42 12 (1 : Int32)) 49) 50) 51) 52) 53) 54) 55) 56) 57) 58))) (by rfl) ?_
  refine aLocs [1, 0] (lv' := [(0, .ref 42), (1, .int (0 : Int32))]) rfl ?_
  exact X11_init_42_c43_l158_ok hC hF N (0 : Int32) (aClr (aClr (aClr (aClr (aClr (aClr (aClr (aClr (aClr (aClr (aI (aI (aI (aClr (aClr (aClr (aClr (aClr (aClr S 43) 44) 45) 46) 47) 48) 42 10 (1 : Int32)) 42 11 (1 : Int32)) 42 12 (1 : Int32)) 49) 50) 51) 52) 53) 54) 55) 56) 57) 58) hf
def X6_set_3 (a1 : Int32) (a2 : Int32) (S : aSt) : aSt := (if a1 < (0 : Int32) then S else (if (201 : Int32) ≤ a1 then S else (aA S 3 (upd (S.2.2 3) a1.toNatClampNeg a2))))
set_option maxHeartbeats 4000000 in
set_option maxRecDepth 100000 in
theorem J_X6_set_3 (l : Launch) (g : aWg) (a1 : Int32) (a2 : Int32) (S : aSt) {r : aSt} (hf : X6_set_3 a1 a2 S = r) : aJ l g yX6_set M_X6_set [.ref 3, .int a1, .int a2] LAY S none LAY r 0 0 := by
  refine aJ_of (by decide +kernel) rfl (Nat.le_of_ble_eq_true rfl) (fun h => nomatch h) ?_
  intro C hg hl hC hz hF
  subst hg; subst hl
  have hT := ok_X6_set
  unfold X6_set_3 at hf
  show aX C M_X6_set 0 0 (0, [(0, .ref 3), (1, .int a1), (2, .int a2)], [], LAY, S)
  refine aRun_ok hC hT 1 (cf' := (1, [(0, .ref 3), (1, .int a1), (2, .int a2)], [.int a1], LAY, S)) (by rfl) ?_
  refine aIf_lt hC hT (tgt := 14) rfl (by decide) (fun hc1 => ?_) (fun hc1 => ?_)
  · have hf := aIfT hf hc1
    subst hf
    exact aRetV hC hT hF rfl rfl
  · have hf := aIfF hf hc1
    refine aRun_ok hC hT 3 (cf' := (7, [(0, .ref 3), (1, .int a1), (2, .int a2)], [.int (201 : Int32), .int a1], LAY, S)) (by rfl) ?_
    refine aCmp_ge hC hT (tgt := 14) rfl (by decide) (fun hc2 => ?_) (fun hc2 => ?_)
    · have hf := aIfT hf hc2
      subst hf
      exact aRetV hC hT hF rfl rfl
    · have hf := aIfF hf hc2
      refine aRun_ok hC hT 3 (cf' := (13, [(0, .ref 3), (1, .int a1), (2, .int a2)], [.int a2, .int a1, .ref 3], LAY, S)) (by rfl) ?_
      refine aIast hC hT rfl (by decide) (by rfl) (aIx_of hc1 hc2 (by decide)) ?_
      subst hf
      exact aRetV hC hT hF rfl rfl
def X6_set_4 (a1 : Int32) (a2 : Int32) (S : aSt) : aSt := (if a1 < (0 : Int32) then S else (if (201 : Int32) ≤ a1 then S else (aA S 4 (upd (S.2.2 4) a1.toNatClampNeg a2))))
set_option maxHeartbeats 4000000 in
set_option maxRecDepth 100000 in
theorem J_X6_set_4 (l : Launch) (g : aWg) (a1 : Int32) (a2 : Int32) (S : aSt) {r : aSt} (hf : X6_set_4 a1 a2 S = r) : aJ l g yX6_set M_X6_set [.ref 4, .int a1, .int a2] LAY S none LAY r 0 0 := by
  refine aJ_of (by decide +kernel) rfl (Nat.le_of_ble_eq_true rfl) (fun h => nomatch h) ?_
  intro C hg hl hC hz hF
  subst hg; subst hl
  have hT := ok_X6_set
  unfold X6_set_4 at hf
  show aX C M_X6_set 0 0 (0, [(0, .ref 4), (1, .int a1), (2, .int a2)], [], LAY, S)
  refine aRun_ok hC hT 1 (cf' := (1, [(0, .ref 4), (1, .int a1), (2, .int a2)], [.int a1], LAY, S)) (by rfl) ?_
  refine aIf_lt hC hT (tgt := 14) rfl (by decide) (fun hc1 => ?_) (fun hc1 => ?_)
  · have hf := aIfT hf hc1
    subst hf
    exact aRetV hC hT hF rfl rfl
  · have hf := aIfF hf hc1
    refine aRun_ok hC hT 3 (cf' := (7, [(0, .ref 4), (1, .int a1), (2, .int a2)], [.int (201 : Int32), .int a1], LAY, S)) (by rfl) ?_
    refine aCmp_ge hC hT (tgt := 14) rfl (by decide) (fun hc2 => ?_) (fun hc2 => ?_)
    · have hf := aIfT hf hc2
      subst hf
      exact aRetV hC hT hF rfl rfl
    · have hf := aIfF hf hc2
      refine aRun_ok hC hT 3 (cf' := (13, [(0, .ref 4), (1, .int a1), (2, .int a2)], [.int a2, .int a1, .ref 4], LAY, S)) (by rfl) ?_
      refine aIast hC hT rfl (by decide) (by rfl) (aIx_of hc1 hc2 (by decide)) ?_
      subst hf
      exact aRetV hC hT hF rfl rfl
def X6_set_5 (a1 : Int32) (a2 : Int32) (S : aSt) : aSt := (if a1 < (0 : Int32) then S else (if (201 : Int32) ≤ a1 then S else (aA S 5 (upd (S.2.2 5) a1.toNatClampNeg a2))))
set_option maxHeartbeats 4000000 in
set_option maxRecDepth 100000 in
theorem J_X6_set_5 (l : Launch) (g : aWg) (a1 : Int32) (a2 : Int32) (S : aSt) {r : aSt} (hf : X6_set_5 a1 a2 S = r) : aJ l g yX6_set M_X6_set [.ref 5, .int a1, .int a2] LAY S none LAY r 0 0 := by
  refine aJ_of (by decide +kernel) rfl (Nat.le_of_ble_eq_true rfl) (fun h => nomatch h) ?_
  intro C hg hl hC hz hF
  subst hg; subst hl
  have hT := ok_X6_set
  unfold X6_set_5 at hf
  show aX C M_X6_set 0 0 (0, [(0, .ref 5), (1, .int a1), (2, .int a2)], [], LAY, S)
  refine aRun_ok hC hT 1 (cf' := (1, [(0, .ref 5), (1, .int a1), (2, .int a2)], [.int a1], LAY, S)) (by rfl) ?_
  refine aIf_lt hC hT (tgt := 14) rfl (by decide) (fun hc1 => ?_) (fun hc1 => ?_)
  · have hf := aIfT hf hc1
    subst hf
    exact aRetV hC hT hF rfl rfl
  · have hf := aIfF hf hc1
    refine aRun_ok hC hT 3 (cf' := (7, [(0, .ref 5), (1, .int a1), (2, .int a2)], [.int (201 : Int32), .int a1], LAY, S)) (by rfl) ?_
    refine aCmp_ge hC hT (tgt := 14) rfl (by decide) (fun hc2 => ?_) (fun hc2 => ?_)
    · have hf := aIfT hf hc2
      subst hf
      exact aRetV hC hT hF rfl rfl
    · have hf := aIfF hf hc2
      refine aRun_ok hC hT 3 (cf' := (13, [(0, .ref 5), (1, .int a1), (2, .int a2)], [.int a2, .int a1, .ref 5], LAY, S)) (by rfl) ?_
      refine aIast hC hT rfl (by decide) (by rfl) (aIx_of hc1 hc2 (by decide)) ?_
      subst hf
      exact aRetV hC hT hF rfl rfl
def X6_at_2 (a1 : Int32) (S : aSt) : Int32 := (if a1 < (0 : Int32) then (0 : Int32) else (if (200 : Int32) ≤ a1 then (0 : Int32) else ((S.2.2 2) a1.toNatClampNeg)))
set_option maxHeartbeats 4000000 in
set_option maxRecDepth 100000 in
theorem J_X6_at_2 (l : Launch) (g : aWg) (a1 : Int32) (S : aSt) {r : Int32} (hf : X6_at_2 a1 S = r) : aJ l g yX6_at M_X6_at [.ref 2, .int a1] LAY S (some (.int r)) LAY S 0 0 := by
  refine aJ_of (by decide +kernel) rfl (Nat.le_of_ble_eq_true rfl) (fun h => nomatch h) ?_
  intro C hg hl hC hz hF
  subst hg; subst hl
  have hT := ok_X6_at
  unfold X6_at_2 at hf
  show aX C M_X6_at 0 0 (0, [(0, .ref 2), (1, .int a1)], [], LAY, S)
  refine aRun_ok hC hT 1 (cf' := (1, [(0, .ref 2), (1, .int a1)], [.int a1], LAY, S)) (by rfl) ?_
  refine aIf_lt hC hT (tgt := 16) rfl (by decide) (fun hc1 => ?_) (fun hc1 => ?_)
  · have hf := aIfT hf hc1
    refine aRun_ok hC hT 1 (cf' := (17, [(0, .ref 2), (1, .int a1)], [.int (0 : Int32)], LAY, S)) (by rfl) ?_
    subst hf
    exact aRetI hC hT hF rfl rfl
  · have hf := aIfF hf hc1
    refine aRun_ok hC hT 3 (cf' := (7, [(0, .ref 2), (1, .int a1)], [.int (200 : Int32), .int a1], LAY, S)) (by rfl) ?_
    refine aCmp_ge hC hT (tgt := 16) rfl (by decide) (fun hc2 => ?_) (fun hc2 => ?_)
    · have hf := aIfT hf hc2
      refine aRun_ok hC hT 1 (cf' := (17, [(0, .ref 2), (1, .int a1)], [.int (0 : Int32)], LAY, S)) (by rfl) ?_
      subst hf
      exact aRetI hC hT hF rfl rfl
    · have hf := aIfF hf hc2
      refine aRun_ok hC hT 2 (cf' := (12, [(0, .ref 2), (1, .int a1)], [.int a1, .ref 2], LAY, S)) (by rfl) ?_
      refine aIald hC hT rfl (by decide) (by rfl) (aIx_of hc1 hc2 (by decide)) ?_
      refine aRun_ok hC hT 1 (cf' := (17, [(0, .ref 2), (1, .int a1)], [.int ((S.2.2 2) a1.toNatClampNeg)], LAY, S)) (by rfl) ?_
      subst hf
      exact aRetI hC hT hF rfl rfl
def X9_sortAt_1_b31 (S : aSt) (v2 : Int32) : Int32 := (if v2 < (48 : Int32) then (3 : Int32) else (if (57 : Int32) < v2 then (3 : Int32) else (2 : Int32)))
set_option maxHeartbeats 4000000 in
set_option maxRecDepth 100000 in
theorem X9_sortAt_1_b31_ok {C : aC} {S : aSt} (hC : aCx C M_X9_sortAt) {r : Int32} (hF : aFin C (some (.int r)) LAY S 0 0) (v2 : Int32) (hf : X9_sortAt_1_b31 S v2 = r) : aX C M_X9_sortAt 0 0 (31, [(2, .int v2)], [], LAY, S) := by
  have hT := ok_X9_sortAt
  unfold X9_sortAt_1_b31 at hf
  refine aRun_ok hC hT 2 (cf' := (34, [(2, .int v2)], [.int (48 : Int32), .int v2], LAY, S)) (by rfl) ?_
  refine aCmp_lt hC hT (tgt := 47) rfl (by decide) (fun hc5 => ?_) (fun hc5 => ?_)
  · have hf := aIfT hf hc5
    refine aRun_ok hC hT 1 (cf' := (48, [(2, .int v2)], [.int (3 : Int32)], LAY, S)) (by rfl) ?_
    subst hf
    exact aRetI hC hT hF rfl rfl
  · have hf := aIfF hf hc5
    refine aRun_ok hC hT 2 (cf' := (40, [(2, .int v2)], [.int (57 : Int32), .int v2], LAY, S)) (by rfl) ?_
    refine aCmp_gt hC hT (tgt := 47) rfl (by decide) (fun hc6 => ?_) (fun hc6 => ?_)
    · have hf := aIfT hf hc6
      refine aRun_ok hC hT 1 (cf' := (48, [(2, .int v2)], [.int (3 : Int32)], LAY, S)) (by rfl) ?_
      subst hf
      exact aRetI hC hT hF rfl rfl
    · have hf := aIfF hf hc6
      refine aRun_ok hC hT 2 (cf' := (48, [(2, .int v2)], [.int (2 : Int32)], LAY, S)) (by rfl) ?_
      subst hf
      exact aRetI hC hT hF rfl rfl
def X9_sortAt_1 (a1 : Int32) (S : aSt) : Int32 := (aLet (X6_at_2 a1 S) (fun w1 => (if w1 = (32 : Int32) then (0 : Int32) else (if w1 < (97 : Int32) then (X9_sortAt_1_b31 S w1) else (if (122 : Int32) < w1 then (X9_sortAt_1_b31 S w1) else (1 : Int32))))))
set_option maxHeartbeats 4000000 in
set_option maxRecDepth 100000 in
theorem J_X9_sortAt_1 (l : Launch) (g : aWg) (a1 : Int32) (S : aSt) {r : Int32} (hf : X9_sortAt_1 a1 S = r) : aJ l g yX9_sortAt M_X9_sortAt [.ref 1, .int a1] LAY S (some (.int r)) LAY S 0 0 := by
  refine aJ_of (by decide +kernel) rfl (Nat.le_of_ble_eq_true rfl) (fun h => nomatch h) ?_
  intro C hg hl hC hz hF
  subst hg; subst hl
  have hT := ok_X9_sortAt
  unfold X9_sortAt_1 at hf
  show aX C M_X9_sortAt 0 0 (0, [(0, .ref 1), (1, .int a1)], [], LAY, S)
  refine aRun_ok hC hT 3 (cf' := (5, [(0, .ref 1), (1, .int a1)], [.int a1, .ref 2], LAY, S)) (by rfl) ?_
  obtain ⟨w1, ew2, hf⟩ := aLetE hf
  refine aCallS (As := [.ref 2, .int a1]) (rest := []) hC hT rfl k_X9_sortAt_40.1 _ k_X9_sortAt_40.2 (by rfl) (Nat.le_of_ble_eq_true rfl) (by decide) (J_X6_at_2 C.2.2.1 C.1 a1 S ew2) ?_
  refine aRun_ok hC hT 3 (cf' := (12, [(2, .int w1), (0, .ref 1), (1, .int a1)], [.int (32 : Int32), .int w1], LAY, S)) (by rfl) ?_
  refine aCmp_ne hC hT (tgt := 17) rfl (by decide) (fun hc3 => ?_) (fun hc3 => ?_)
  · have hf := aIfF hf hc3
    refine aRun_ok hC hT 2 (cf' := (20, [(2, .int w1), (0, .ref 1), (1, .int a1)], [.int (97 : Int32), .int w1], LAY, S)) (by rfl) ?_
    refine aCmp_lt hC hT (tgt := 31) rfl (by decide) (fun hc4 => ?_) (fun hc4 => ?_)
    · have hf := aIfT hf hc4
      refine aLocs [0] (lv' := [(2, .int w1)]) rfl ?_
      exact X9_sortAt_1_b31_ok hC hF w1 hf
    · have hf := aIfF hf hc4
      refine aRun_ok hC hT 2 (cf' := (26, [(2, .int w1), (0, .ref 1), (1, .int a1)], [.int (122 : Int32), .int w1], LAY, S)) (by rfl) ?_
      refine aCmp_gt hC hT (tgt := 31) rfl (by decide) (fun hc7 => ?_) (fun hc7 => ?_)
      · have hf := aIfT hf hc7
        refine aLocs [0] (lv' := [(2, .int w1)]) rfl ?_
        exact X9_sortAt_1_b31_ok hC hF w1 hf
      · have hf := aIfF hf hc7
        refine aRun_ok hC hT 1 (cf' := (30, [(2, .int w1), (0, .ref 1), (1, .int a1)], [.int (1 : Int32)], LAY, S)) (by rfl) ?_
        subst hf
        exact aRetI hC hT hF rfl rfl
  · have hf := aIfT hf hc3
    refine aRun_ok hC hT 1 (cf' := (16, [(2, .int w1), (0, .ref 1), (1, .int a1)], [.int (0 : Int32)], LAY, S)) (by rfl) ?_
    subst hf
    exact aRetI hC hT hF rfl rfl
def X9_isRow (a0 : Int32) : Int32 := (if a0 = (1 : Int32) then (1 : Int32) else (if a0 = (2 : Int32) then (1 : Int32) else (0 : Int32)))
set_option maxHeartbeats 4000000 in
set_option maxRecDepth 100000 in
theorem J_X9_isRow (l : Launch) (g : aWg) (a0 : Int32) (S : aSt) {r : Int32} (hf : X9_isRow a0 = r) : aJ l g yX9_isRow M_X9_isRow [.int a0] LAY S (some (.int r)) LAY S 0 0 := by
  refine aJ_of (by decide +kernel) rfl (Nat.le_of_ble_eq_true rfl) (fun h => nomatch h) ?_
  intro C hg hl hC hz hF
  subst hg; subst hl
  have hT := ok_X9_isRow
  unfold X9_isRow at hf
  show aX C M_X9_isRow 0 0 (0, [(0, .int a0)], [], LAY, S)
  refine aRun_ok hC hT 2 (cf' := (2, [(0, .int a0)], [.int (1 : Int32), .int a0], LAY, S)) (by rfl) ?_
  refine aCmp_eq hC hT (tgt := 10) rfl (by decide) (fun hc1 => ?_) (fun hc1 => ?_)
  · have hf := aIfT hf hc1
    refine aRun_ok hC hT 2 (cf' := (15, [(0, .int a0)], [.int (1 : Int32)], LAY, S)) (by rfl) ?_
    subst hf
    exact aRetB hC hT hF rfl (Or.inr rfl) rfl
  · have hf := aIfF hf hc1
    refine aRun_ok hC hT 2 (cf' := (7, [(0, .int a0)], [.int (2 : Int32), .int a0], LAY, S)) (by rfl) ?_
    refine aCmp_ne hC hT (tgt := 14) rfl (by decide) (fun hc2 => ?_) (fun hc2 => ?_)
    · have hf := aIfF hf hc2
      refine aRun_ok hC hT 1 (cf' := (15, [(0, .int a0)], [.int (0 : Int32)], LAY, S)) (by rfl) ?_
      subst hf
      exact aRetB hC hT hF rfl (Or.inl rfl) rfl
    · have hf := aIfT hf hc2
      refine aRun_ok hC hT 2 (cf' := (15, [(0, .int a0)], [.int (1 : Int32)], LAY, S)) (by rfl) ?_
      subst hf
      exact aRetB hC hT hF rfl (Or.inr rfl) rfl
def X9_isBegin_1_b33 (S : aSt) (v2 : Int32) (s0 : Int32) : Int32 := (if v2 = (0 : Int32) then (0 : Int32) else (if s0 = (0 : Int32) then (1 : Int32) else (0 : Int32)))
set_option maxHeartbeats 4000000 in
set_option maxRecDepth 100000 in
theorem X9_isBegin_1_b33_ok {C : aC} {S : aSt} (hC : aCx C M_X9_isBegin) {r : Int32} (hF : aFin C (some (.int r)) LAY S 0 0) (v2 : Int32) (s0 : Int32) (hf : X9_isBegin_1_b33 S v2 s0 = r) : aX C M_X9_isBegin 0 0 (33, [(2, .int v2)], [.int s0], LAY, S) := by
  have hT := ok_X9_isBegin
  unfold X9_isBegin_1_b33 at hf
  refine aRun_ok hC hT 2 (cf' := (35, [(3, .int s0), (2, .int v2)], [.int v2], LAY, S)) (by rfl) ?_
  refine aIf_eq hC hT (tgt := 46) rfl (by decide) (fun hc6 => ?_) (fun hc6 => ?_)
  · have hf := aIfT hf hc6
    refine aRun_ok hC hT 1 (cf' := (47, [(3, .int s0), (2, .int v2)], [.int (0 : Int32)], LAY, S)) (by rfl) ?_
    subst hf
    exact aRetB hC hT hF rfl (Or.inl rfl) rfl
  · have hf := aIfF hf hc6
    refine aRun_ok hC hT 1 (cf' := (39, [(3, .int s0), (2, .int v2)], [.int s0], LAY, S)) (by rfl) ?_
    refine aIf_ne hC hT (tgt := 46) rfl (by decide) (fun hc7 => ?_) (fun hc7 => ?_)
    · have hf := aIfF hf hc7
      refine aRun_ok hC hT 1 (cf' := (47, [(3, .int s0), (2, .int v2)], [.int (0 : Int32)], LAY, S)) (by rfl) ?_
      subst hf
      exact aRetB hC hT hF rfl (Or.inl rfl) rfl
    · have hf := aIfT hf hc7
      refine aRun_ok hC hT 2 (cf' := (47, [(3, .int s0), (2, .int v2)], [.int (1 : Int32)], LAY, S)) (by rfl) ?_
      subst hf
      exact aRetB hC hT hF rfl (Or.inr rfl) rfl
def X9_isBegin_1_b32 (S : aSt) (v2 : Int32) : Int32 := (X9_isBegin_1_b33 S v2 (0 : Int32))
set_option maxHeartbeats 4000000 in
set_option maxRecDepth 100000 in
theorem X9_isBegin_1_b32_ok {C : aC} {S : aSt} (hC : aCx C M_X9_isBegin) {r : Int32} (hF : aFin C (some (.int r)) LAY S 0 0) (v2 : Int32) (hf : X9_isBegin_1_b32 S v2 = r) : aX C M_X9_isBegin 0 0 (32, [(2, .int v2)], [], LAY, S) := by
  have hT := ok_X9_isBegin
  unfold X9_isBegin_1_b32 at hf
  refine aRun_ok hC hT 1 (cf' := (33, [(2, .int v2)], [.int (0 : Int32)], LAY, S)) (by rfl) ?_
  exact X9_isBegin_1_b33_ok hC hF v2 (0 : Int32) hf
def X9_isBegin_1 (a1 : Int32) (S : aSt) : Int32 := (aLet (X9_sortAt_1 a1 S) (fun w1 => (aLet (X9_isRow w1) (fun w3 => (if w3 = (0 : Int32) then (X9_isBegin_1_b32 S w1) else (if a1 ≤ (0 : Int32) then (X9_isBegin_1_b32 S w1) else (aLet (X9_sortAt_1 (a1 - (1 : Int32)) S) (fun w9 => (if w9 = w1 then (X9_isBegin_1_b33 S w1 (1 : Int32)) else (X9_isBegin_1_b32 S w1))))))))))
set_option maxHeartbeats 4000000 in
set_option maxRecDepth 100000 in
theorem J_X9_isBegin_1 (l : Launch) (g : aWg) (a1 : Int32) (S : aSt) {r : Int32} (hf : X9_isBegin_1 a1 S = r) : aJ l g yX9_isBegin M_X9_isBegin [.ref 1, .int a1] LAY S (some (.int r)) LAY S 0 0 := by
  refine aJ_of (by decide +kernel) rfl (Nat.le_of_ble_eq_true rfl) (fun h => nomatch h) ?_
  intro C hg hl hC hz hF
  subst hg; subst hl
  have hT := ok_X9_isBegin
  unfold X9_isBegin_1 at hf
  show aX C M_X9_isBegin 0 0 (0, [(0, .ref 1), (1, .int a1)], [], LAY, S)
  refine aRun_ok hC hT 2 (cf' := (2, [(0, .ref 1), (1, .int a1)], [.int a1, .ref 1], LAY, S)) (by rfl) ?_
  obtain ⟨w1, ew2, hf⟩ := aLetE hf
  refine aCallV (b := 1) (As := [.int a1]) (rest := []) hC hT rfl k_X9_isBegin_76.1 _ _ k_X9_isBegin_76.2 (by decide) (by rfl) (by rfl) (by rfl) (Nat.le_of_ble_eq_true rfl) (by decide) (J_X9_sortAt_1 C.2.2.1 C.1 a1 S ew2) ?_
  refine aRun_ok hC hT 2 (cf' := (7, [(2, .int w1), (0, .ref 1), (1, .int a1)], [.int w1], LAY, S)) (by rfl) ?_
  obtain ⟨w3, ew4, hf⟩ := aLetE hf
  refine aCallS (As := [.int w1]) (rest := []) hC hT rfl k_X9_isBegin_80.1 _ k_X9_isBegin_80.2 (by rfl) (Nat.le_of_ble_eq_true rfl) (by decide) (J_X9_isRow C.2.2.1 C.1 w1 S ew4) ?_
  refine aIf_eq hC hT (tgt := 32) rfl (by decide) (fun hc5 => ?_) (fun hc5 => ?_)
  · have hf := aIfT hf hc5
    refine aLocs [0] (lv' := [(2, .int w1)]) rfl ?_
    exact X9_isBegin_1_b32_ok hC hF w1 hf
  · have hf := aIfF hf hc5
    refine aRun_ok hC hT 1 (cf' := (14, [(2, .int w1), (0, .ref 1), (1, .int a1)], [.int a1], LAY, S)) (by rfl) ?_
    refine aIf_le hC hT (tgt := 32) rfl (by decide) (fun hc8 => ?_) (fun hc8 => ?_)
    · have hf := aIfT hf hc8
      refine aLocs [0] (lv' := [(2, .int w1)]) rfl ?_
      exact X9_isBegin_1_b32_ok hC hF w1 hf
    · have hf := aIfF hf hc8
      refine aRun_ok hC hT 4 (cf' := (21, [(2, .int w1), (0, .ref 1), (1, .int a1)], [.int (a1 - (1 : Int32)), .ref 1], LAY, S)) (by rfl) ?_
      obtain ⟨w9, ew10, hf⟩ := aLetE hf
      refine aCallV (b := 1) (As := [.int (a1 - (1 : Int32))]) (rest := []) hC hT rfl k_X9_isBegin_76.1 _ _ k_X9_isBegin_76.2 (by decide) (by rfl) (by rfl) (by rfl) (Nat.le_of_ble_eq_true rfl) (by decide) (J_X9_sortAt_1 C.2.2.1 C.1 (a1 - (1 : Int32)) S ew10) ?_
      refine aRun_ok hC hT 1 (cf' := (25, [(2, .int w1), (0, .ref 1), (1, .int a1)], [.int w1, .int w9], LAY, S)) (by rfl) ?_
      refine aCmp_ne hC hT (tgt := 32) rfl (by decide) (fun hc11 => ?_) (fun hc11 => ?_)
      · have hf := aIfF hf hc11
        refine aLocs [0] (lv' := [(2, .int w1)]) rfl ?_
        exact X9_isBegin_1_b32_ok hC hF w1 hf
      · have hf := aIfT hf hc11
        refine aRun_ok hC hT 2 (cf' := (33, [(2, .int w1), (0, .ref 1), (1, .int a1)], [.int (1 : Int32)], LAY, S)) (by rfl) ?_
        refine aLocs [0] (lv' := [(2, .int w1)]) rfl ?_
        exact X9_isBegin_1_b33_ok hC hF w1 (1 : Int32) hf
def J0_coder_7d493_1002 : Int32 := (0 : Int32)
set_option maxHeartbeats 4000000 in
set_option maxRecDepth 100000 in
theorem J_J0_coder_7d493_1002 (l : Launch) (g : aWg) (S : aSt) {r : Int32} (hf : J0_coder_7d493_1002 = r) : aJ l g yJ0_coder_7d493 M_J0_coder_7d493 [.ref 1002] LAY S (some (.int r)) LAY S 0 0 := by
  refine aJ_of (by decide +kernel) rfl (Nat.le_of_ble_eq_true rfl) (fun h => nomatch h) ?_
  intro C hg hl hC hz hF
  subst hg; subst hl
  have hT := ok_J0_coder_7d493
  unfold J0_coder_7d493_1002 at hf
  show aX C M_J0_coder_7d493 0 0 (0, [(0, .ref 1002)], [], LAY, S)
  refine aRun_ok hC hT 1 (cf' := (3, [(0, .ref 1002)], [.int (1 : Int32)], LAY, S)) (by rfl) ?_
  refine aIf_eq hC hT (tgt := 13) rfl (by decide) (fun h => absurd h (by decide)) (fun _ => ?_)
  refine aRun_ok hC hT 3 (cf' := (14, [(0, .ref 1002)], [.int (0 : Int32)], LAY, S)) (by rfl) ?_
  subst hf
  exact aRetZ hC hT hF rfl (by decide) rfl
def J0_length_8abf5_1002 : Int32 := ((4 : Int32) >>> ((0 : Int32) &&& 31))
set_option maxHeartbeats 4000000 in
set_option maxRecDepth 100000 in
theorem J_J0_length_8abf5_1002 (l : Launch) (g : aWg) (S : aSt) {r : Int32} (hf : J0_length_8abf5_1002 = r) : aJ l g yJ0_length_8abf5 M_J0_length_8abf5 [.ref 1002] LAY S (some (.int r)) LAY S 0 0 := by
  refine aJ_of (by decide +kernel) rfl (Nat.le_of_ble_eq_true rfl) (fun h => nomatch h) ?_
  intro C hg hl hC hz hF
  subst hg; subst hl
  have hT := ok_J0_length_8abf5
  unfold J0_length_8abf5_1002 at hf
  show aX C M_J0_length_8abf5 0 0 (0, [(0, .ref 1002)], [], LAY, S)
  refine aRun_ok hC hT 4 (cf' := (6, [(0, .ref 1002)], [.ref 1002, .int (4 : Int32)], LAY, S)) (by rfl) ?_
  refine aCallW (b := 1002) (As := []) (rest := [.int (4 : Int32)]) hC hT rfl k_J0_length_8abf5_335.1 _ _ k_J0_length_8abf5_335.2 (by decide) (by rfl) (by rfl) (Nat.le_of_ble_eq_true rfl) (by decide) (J_J0_coder_7d493_1002 C.2.2.1 C.1  S rfl) ?_
  refine aRun_ok hC hT 1 (cf' := (10, [(0, .ref 1002)], [.int ((4 : Int32) >>> ((0 : Int32) &&& 31))], LAY, S)) (by rfl) ?_
  subst hf
  exact aRetI hC hT hF rfl rfl
def J0_isLatin1_aae02_1002 : Int32 := (1 : Int32)
set_option maxHeartbeats 4000000 in
set_option maxRecDepth 100000 in
theorem J_J0_isLatin1_aae02_1002 (l : Launch) (g : aWg) (S : aSt) {r : Int32} (hf : J0_isLatin1_aae02_1002 = r) : aJ l g yJ0_isLatin1_aae02 M_J0_isLatin1_aae02 [.ref 1002] LAY S (some (.int r)) LAY S 0 0 := by
  refine aJ_of (by decide +kernel) rfl (Nat.le_of_ble_eq_true rfl) (fun h => nomatch h) ?_
  intro C hg hl hC hz hF
  subst hg; subst hl
  have hT := ok_J0_isLatin1_aae02
  unfold J0_isLatin1_aae02_1002 at hf
  show aX C M_J0_isLatin1_aae02 0 0 (0, [(0, .ref 1002)], [], LAY, S)
  refine aRun_ok hC hT 1 (cf' := (3, [(0, .ref 1002)], [.int (1 : Int32)], LAY, S)) (by rfl) ?_
  refine aIf_eq hC hT (tgt := 17) rfl (by decide) (fun h => absurd h (by decide)) (fun _ => ?_)
  refine aRun_ok hC hT 2 (cf' := (10, [(0, .ref 1002)], [.int (0 : Int32)], LAY, S)) (by rfl) ?_
  refine aIf_ne hC hT (tgt := 17) rfl (by decide) (fun h => absurd h (by decide)) (fun _ => ?_)
  refine aRun_ok hC hT 2 (cf' := (18, [(0, .ref 1002)], [.int (1 : Int32)], LAY, S)) (by rfl) ?_
  subst hf
  exact aRetB hC hT hF rfl (Or.inr rfl) rfl
def J3_checkIndex_8e157_b9 (N : Nat) (v0 : Int32) (v1 : Int32) : Option (Int32) := none
set_option maxHeartbeats 4000000 in
set_option maxRecDepth 100000 in
theorem J3_checkIndex_8e157_b9_ok {C : aC} {N : Nat} {S : aSt} (hC : aCx C M_J3_checkIndex_8e157) {r : Int32} (hF : aFin C (some (.int r)) LAY S 0 0) (v0 : Int32) (v1 : Int32) (hf : J3_checkIndex_8e157_b9 N v0 v1 = (some r)) : aX C M_J3_checkIndex_8e157 0 0 (9, [(0, .int v0), (1, .int v1), (2, .retAddr 0)], [], LAY, S) := by
  have hT := ok_J3_checkIndex_8e157
  unfold J3_checkIndex_8e157_b9 at hf
  cases hf
def J3_checkIndex_8e157 (N : Nat) (a0 : Int32) (a1 : Int32) : Option (Int32) := (if a0 < (0 : Int32) then (J3_checkIndex_8e157_b9 N a0 a1) else (if a0 < a1 then some (a0) else (J3_checkIndex_8e157_b9 N a0 a1)))
set_option maxHeartbeats 4000000 in
set_option maxRecDepth 100000 in
theorem J_J3_checkIndex_8e157 (l : Launch) (g : aWg) (N : Nat) (a0 : Int32) (a1 : Int32) (S : aSt) {r : Int32} (hf : J3_checkIndex_8e157 N a0 a1 = (some r)) : aJ l g yJ3_checkIndex_8e157 M_J3_checkIndex_8e157 [.int a0, .int a1, .retAddr 0] LAY S (some (.int r)) LAY S 0 0 := by
  refine aJ_of (by decide +kernel) rfl (Nat.le_of_ble_eq_true rfl) (fun h => nomatch h) ?_
  intro C hg hl hC hz hF
  subst hg; subst hl
  have hT := ok_J3_checkIndex_8e157
  unfold J3_checkIndex_8e157 at hf
  show aX C M_J3_checkIndex_8e157 0 0 (0, [(0, .int a0), (1, .int a1), (2, .retAddr 0)], [], LAY, S)
  refine aRun_ok hC hT 1 (cf' := (1, [(0, .int a0), (1, .int a1), (2, .retAddr 0)], [.int a0], LAY, S)) (by rfl) ?_
  refine aIf_lt hC hT (tgt := 9) rfl (by decide) (fun hc1 => ?_) (fun hc1 => ?_)
  · have hf := aIfT hf hc1
    exact J3_checkIndex_8e157_b9_ok hC hF a0 a1 hf
  · have hf := aIfF hf hc1
    refine aRun_ok hC hT 2 (cf' := (6, [(0, .int a0), (1, .int a1), (2, .retAddr 0)], [.int a1, .int a0], LAY, S)) (by rfl) ?_
    refine aCmp_lt hC hT (tgt := 16) rfl (by decide) (fun hc2 => ?_) (fun hc2 => ?_)
    · have hf := aIfT hf hc2
      refine aRun_ok hC hT 1 (cf' := (17, [(0, .int a0), (1, .int a1), (2, .retAddr 0)], [.int a0], LAY, S)) (by rfl) ?_
      have e9 := Option.some.inj hf; subst e9
      exact aRetI hC hT hF rfl rfl
    · have hf := aIfF hf hc2
      exact J3_checkIndex_8e157_b9_ok hC hF a0 a1 hf
def J0_checkIndex_df160 (N : Nat) (a0 : Int32) (a1 : Int32) : Option (Unit) := (Option.bind (J3_checkIndex_8e157 N a0 a1) (fun w1 => some (())))
set_option maxHeartbeats 4000000 in
set_option maxRecDepth 100000 in
theorem J_J0_checkIndex_df160 (l : Launch) (g : aWg) (N : Nat) (a0 : Int32) (a1 : Int32) (S : aSt) {r : Unit} (hf : J0_checkIndex_df160 N a0 a1 = (some r)) : aJ l g yJ0_checkIndex_df160 M_J0_checkIndex_df160 [.int a0, .int a1] LAY S none LAY S 0 0 := by
  refine aJ_of (by decide +kernel) rfl (Nat.le_of_ble_eq_true rfl) (fun h => nomatch h) ?_
  intro C hg hl hC hz hF
  subst hg; subst hl
  have hT := ok_J0_checkIndex_df160
  unfold J0_checkIndex_df160 at hf
  show aX C M_J0_checkIndex_df160 0 0 (0, [(0, .int a0), (1, .int a1)], [], LAY, S)
  refine aRun_ok hC hT 3 (cf' := (5, [(0, .int a0), (1, .int a1)], [.retAddr 0, .int a1, .int a0], LAY, S)) (by rfl) ?_
  obtain ⟨w1, ew2, hf⟩ := aBnE hf
  refine aCallS (As := [.int a0, .int a1, .retAddr 0]) (rest := []) hC hT rfl k_J0_checkIndex_df160_1059.1 _ k_J0_checkIndex_df160_1059.2 (by rfl) (Nat.le_of_ble_eq_true rfl) (by decide) (J_J3_checkIndex_8e157 C.2.2.1 C.1 N a0 a1 S ew2) ?_
  refine aRun_ok hC hT 1 (cf' := (9, [(0, .int a0), (1, .int a1)], [], LAY, S)) (by rfl) ?_
  have e9 := Option.some.inj hf; subst e9
  exact aRetV hC hT hF rfl rfl
def J1_charAt_3b067_1011 (N : Nat) (a1 : Int32) : Option (Int32) := (Option.bind (J0_checkIndex_df160 N a1 (4 : Int32)) (fun w1 => (if aIx a1 4 = true then (if narrow .char (.int ((((aByt.getD 0 []).getD a1.toNatClampNeg (0 : Int32)) &&& (255 : Int32)).toUInt32 % 65536).toInt32) = .int ((((aByt.getD 0 []).getD a1.toNatClampNeg (0 : Int32)) &&& (255 : Int32)).toUInt32 % 65536).toInt32 then some (((((aByt.getD 0 []).getD a1.toNatClampNeg (0 : Int32)) &&& (255 : Int32)).toUInt32 % 65536).toInt32) else none) else none)))
set_option maxHeartbeats 4000000 in
set_option maxRecDepth 100000 in
theorem J_J1_charAt_3b067_1011 (l : Launch) (g : aWg) (N : Nat) (a1 : Int32) (S : aSt) {r : Int32} (hf : J1_charAt_3b067_1011 N a1 = (some r)) : aJ l g yJ1_charAt_3b067 M_J1_charAt_3b067 [.ref 1011, .int a1] LAY S (some (.int r)) LAY S 0 0 := by
  refine aJ_of (by decide +kernel) rfl (Nat.le_of_ble_eq_true rfl) (fun h => nomatch h) ?_
  intro C hg hl hC hz hF
  subst hg; subst hl
  have hT := ok_J1_charAt_3b067
  unfold J1_charAt_3b067_1011 at hf
  show aX C M_J1_charAt_3b067 0 0 (0, [(0, .ref 1011), (1, .int a1)], [], LAY, S)
  refine aRun_ok hC hT 3 (cf' := (3, [(0, .ref 1011), (1, .int a1)], [.int (4 : Int32), .int a1], LAY, S)) (by rfl) ?_
  obtain ⟨w1, ew2, hf⟩ := aBnE hf
  refine aCallS (As := [.int a1, .int (4 : Int32)]) (rest := []) hC hT rfl k_J1_charAt_3b067_9.1 _ k_J1_charAt_3b067_9.2 (by rfl) (Nat.le_of_ble_eq_true rfl) (by decide) (J_J0_checkIndex_df160 C.2.2.1 C.1 N a1 (4 : Int32) S ew2) ?_
  refine aRun_ok hC hT 2 (cf' := (8, [(0, .ref 1011), (1, .int a1)], [.int a1, .ref 1011], LAY, S)) (by rfl) ?_
  obtain ⟨hin3, hf⟩ := aGdE hf
  refine aBald hC hT rfl (by decide) (by decide) hin3 ?_
  refine aRun_ok hC hT 3 (cf' := (14, [(0, .ref 1011), (1, .int a1)], [.int ((((aByt.getD 0 []).getD a1.toNatClampNeg (0 : Int32)) &&& (255 : Int32)).toUInt32 % 65536).toInt32], LAY, S)) (by rfl) ?_
  obtain ⟨hb4, hf⟩ := aGdE hf
  have e9 := Option.some.inj hf; subst e9
  exact aRetZ hC hT hF rfl hb4 rfl
def J0_charAt_5068e_1002 (N : Nat) (a1 : Int32) : Option (Int32) := (Option.bind (J1_charAt_3b067_1011 N a1) (fun w3 => (if narrow .char (.int w3) = .int w3 then some (w3) else none)))
set_option maxHeartbeats 4000000 in
set_option maxRecDepth 100000 in
theorem J_J0_charAt_5068e_1002 (l : Launch) (g : aWg) (N : Nat) (a1 : Int32) (S : aSt) {r : Int32} (hf : J0_charAt_5068e_1002 N a1 = (some r)) : aJ l g yJ0_charAt_5068e M_J0_charAt_5068e [.ref 1002, .int a1] LAY S (some (.int r)) LAY S 0 0 := by
  refine aJ_of (by decide +kernel) rfl (Nat.le_of_ble_eq_true rfl) (fun h => nomatch h) ?_
  intro C hg hl hC hz hF
  subst hg; subst hl
  have hT := ok_J0_charAt_5068e
  unfold J0_charAt_5068e_1002 at hf
  show aX C M_J0_charAt_5068e 0 0 (0, [(0, .ref 1002), (1, .int a1)], [], LAY, S)
  refine aRun_ok hC hT 1 (cf' := (1, [(0, .ref 1002), (1, .int a1)], [.ref 1002], LAY, S)) (by rfl) ?_
  refine aCallW (b := 1002) (As := []) (rest := []) hC hT rfl k_J0_charAt_5068e_492.1 _ _ k_J0_charAt_5068e_492.2 (by decide) (by rfl) (by rfl) (Nat.le_of_ble_eq_true rfl) (by decide) (J_J0_isLatin1_aae02_1002 C.2.2.1 C.1  S rfl) ?_
  refine aIf_eq hC hT (tgt := 16) rfl (by decide) (fun h => absurd h (by decide)) (fun _ => ?_)
  refine aRun_ok hC hT 3 (cf' := (12, [(0, .ref 1002), (1, .int a1)], [.int a1, .ref 1011], LAY, S)) (by rfl) ?_
  obtain ⟨w3, ew4, hf⟩ := aBnE hf
  refine aCallS (As := [.ref 1011, .int a1]) (rest := []) hC hT rfl k_J0_charAt_5068e_495.1 _ k_J0_charAt_5068e_495.2 (by rfl) (Nat.le_of_ble_eq_true rfl) (by decide) (J_J1_charAt_3b067_1011 C.2.2.1 C.1 N a1 S ew4) ?_
  obtain ⟨hb5, hf⟩ := aGdE hf
  have e9 := Option.some.inj hf; subst e9
  exact aRetZ hC hT hF rfl hb5 rfl
def X9_is_1_1002_b15 (N : Nat) (S : aSt) (rec15 : Int32 → Int32 → Option (Int32)) (v2 : Int32) (v4 : Int32) : Option (Int32) := (aLet (J0_length_8abf5_1002) (fun w4 => (if w4 ≤ v4 then some ((1 : Int32)) else (Option.bind (J0_charAt_5068e_1002 N v4) (fun w7 => (aLet (X6_at_2 (v2 + v4) S) (fun w9 => (if w7 = w9 then (rec15 v2 (v4 + (1 : Int32))) else some ((0 : Int32))))))))))
set_option maxHeartbeats 4000000 in
set_option maxRecDepth 100000 in
theorem X9_is_1_1002_b15_ok {C : aC} {N : Nat} {S : aSt} {rec15 : Int32 → Int32 → Option (Int32)} (hC : aCx C M_X9_is) {r : Int32} (hF : aFin C (some (.int r)) LAY S 0 0) (hrec15 : ∀ (v2 : Int32) (v4 : Int32), rec15 v2 v4 = (some r) → aX C M_X9_is 0 0 (15, [(0, .ref 1), (1, .ref 1002), (2, .int v2), (4, .int v4)], [], LAY, S)) (v2 : Int32) (v4 : Int32) (hf : X9_is_1_1002_b15 N S rec15 v2 v4 = (some r)) : aX C M_X9_is 0 0 (15, [(0, .ref 1), (1, .ref 1002), (2, .int v2), (4, .int v4)], [], LAY, S) := by
  have hT := ok_X9_is
  unfold X9_is_1_1002_b15 at hf
  refine aRun_ok hC hT 2 (cf' := (18, [(0, .ref 1), (1, .ref 1002), (2, .int v2), (4, .int v4)], [.ref 1002, .int v4], LAY, S)) (by rfl) ?_
  obtain ⟨w4, ew5, hf⟩ := aLetE hf
  refine aCallW (b := 1002) (As := []) (rest := [.int v4]) hC hT rfl k_X9_is_111.1 _ _ k_X9_is_111.2 (by decide) (by rfl) (by rfl) (Nat.le_of_ble_eq_true rfl) (by decide) (J_J0_length_8abf5_1002 C.2.2.1 C.1  S ew5) ?_
  refine aCmp_ge hC hT (tgt := 52) rfl (by decide) (fun hc6 => ?_) (fun hc6 => ?_)
  · have hf := aIfT hf hc6
    refine aRun_ok hC hT 1 (cf' := (53, [(0, .ref 1), (1, .ref 1002), (2, .int v2), (4, .int v4)], [.int (1 : Int32)], LAY, S)) (by rfl) ?_
    have e9 := Option.some.inj hf; subst e9
    exact aRetB hC hT hF rfl (Or.inr rfl) rfl
  · have hf := aIfF hf hc6
    refine aRun_ok hC hT 2 (cf' := (27, [(0, .ref 1), (1, .ref 1002), (2, .int v2), (4, .int v4)], [.int v4, .ref 1002], LAY, S)) (by rfl) ?_
    obtain ⟨w7, ew8, hf⟩ := aBnE hf
    refine aCallW (b := 1002) (As := [.int v4]) (rest := []) hC hT rfl k_X9_is_116.1 _ _ k_X9_is_116.2 (by decide) (by rfl) (by rfl) (Nat.le_of_ble_eq_true rfl) (by decide) (J_J0_charAt_5068e_1002 C.2.2.1 C.1 N v4 S ew8) ?_
    refine aRun_ok hC hT 5 (cf' := (38, [(0, .ref 1), (1, .ref 1002), (2, .int v2), (4, .int v4)], [.int (v2 + v4), .ref 2, .int w7], LAY, S)) (by rfl) ?_
    obtain ⟨w9, ew10, hf⟩ := aLetE hf
    refine aCallS (As := [.ref 2, .int (v2 + v4)]) (rest := [.int w7]) hC hT rfl k_X9_is_40.1 _ k_X9_is_40.2 (by rfl) (Nat.le_of_ble_eq_true rfl) (by decide) (J_X6_at_2 C.2.2.1 C.1 (v2 + v4) S ew10) ?_
    refine aCmp_eq hC hT (tgt := 46) rfl (by decide) (fun hc11 => ?_) (fun hc11 => ?_)
    · have hf := aIfT hf hc11
      refine aRun_ok hC hT 2 (cf' := (15, [(4, .int (v4 + (1 : Int32))), (0, .ref 1), (1, .ref 1002), (2, .int v2)], [], LAY, S)) (by rfl) ?_
      refine aLocs [1, 2, 3, 0] (lv' := [(0, .ref 1), (1, .ref 1002), (2, .int v2), (4, .int (v4 + (1 : Int32)))]) rfl ?_
      exact hrec15 v2 (v4 + (1 : Int32)) hf
    · have hf := aIfF hf hc11
      refine aRun_ok hC hT 1 (cf' := (45, [(0, .ref 1), (1, .ref 1002), (2, .int v2), (4, .int v4)], [.int (0 : Int32)], LAY, S)) (by rfl) ?_
      have e9 := Option.some.inj hf; subst e9
      exact aRetB hC hT hF rfl (Or.inl rfl) rfl
def X9_is_1_1002_l15 (N : Nat) (S : aSt) : Nat → Int32 → Int32 → Option (Int32)
  | 0 => fun _ _ => none
  | n + 1 => X9_is_1_1002_b15 N S (X9_is_1_1002_l15 N S n)
theorem X9_is_1_1002_l15_ok {C : aC} {N : Nat} {S : aSt} (hC : aCx C M_X9_is) {r : Int32} (hF : aFin C (some (.int r)) LAY S 0 0) : ∀ (n : Nat) (v2 : Int32) (v4 : Int32), X9_is_1_1002_l15 N S n v2 v4 = (some r) → aX C M_X9_is 0 0 (15, [(0, .ref 1), (1, .ref 1002), (2, .int v2), (4, .int v4)], [], LAY, S)
  | 0, _, _,  h => nomatch (show (none : Option (Int32)) = some _ from h)
  | n + 1, v2, v4,  h => X9_is_1_1002_b15_ok hC hF (fun v2 v4 h => X9_is_1_1002_l15_ok hC hF n v2 v4 h) v2 v4 h
def X9_is_1_1002 (N : Nat) (a2 : Int32) (a3 : Int32) (S : aSt) : Option (Int32) := (aLet (J0_length_8abf5_1002) (fun w1 => (if (a3 - a2) = w1 then (X9_is_1_1002_l15 N S N a2 (0 : Int32)) else some ((0 : Int32)))))
set_option maxHeartbeats 4000000 in
set_option maxRecDepth 100000 in
theorem J_X9_is_1_1002 (l : Launch) (g : aWg) (N : Nat) (a2 : Int32) (a3 : Int32) (S : aSt) {r : Int32} (hf : X9_is_1_1002 N a2 a3 S = (some r)) : aJ l g yX9_is M_X9_is [.ref 1, .ref 1002, .int a2, .int a3] LAY S (some (.int r)) LAY S 0 0 := by
  refine aJ_of (by decide +kernel) rfl (Nat.le_of_ble_eq_true rfl) (fun h => nomatch h) ?_
  intro C hg hl hC hz hF
  subst hg; subst hl
  have hT := ok_X9_is
  unfold X9_is_1_1002 at hf
  show aX C M_X9_is 0 0 (0, [(0, .ref 1), (1, .ref 1002), (2, .int a2), (3, .int a3)], [], LAY, S)
  refine aRun_ok hC hT 4 (cf' := (4, [(0, .ref 1), (1, .ref 1002), (2, .int a2), (3, .int a3)], [.ref 1002, .int (a3 - a2)], LAY, S)) (by rfl) ?_
  obtain ⟨w1, ew2, hf⟩ := aLetE hf
  refine aCallW (b := 1002) (As := []) (rest := [.int (a3 - a2)]) hC hT rfl k_X9_is_111.1 _ _ k_X9_is_111.2 (by decide) (by rfl) (by rfl) (Nat.le_of_ble_eq_true rfl) (by decide) (J_J0_length_8abf5_1002 C.2.2.1 C.1  S ew2) ?_
  refine aCmp_eq hC hT (tgt := 12) rfl (by decide) (fun hc3 => ?_) (fun hc3 => ?_)
  · have hf := aIfT hf hc3
    refine aRun_ok hC hT 2 (cf' := (15, [(4, .int (0 : Int32)), (0, .ref 1), (1, .ref 1002), (2, .int a2), (3, .int a3)], [], LAY, S)) (by rfl) ?_
    refine aLocs [1, 2, 3, 0] (lv' := [(0, .ref 1), (1, .ref 1002), (2, .int a2), (4, .int (0 : Int32))]) rfl ?_
    exact X9_is_1_1002_l15_ok hC hF N a2 (0 : Int32) hf
  · have hf := aIfF hf hc3
    refine aRun_ok hC hT 1 (cf' := (11, [(0, .ref 1), (1, .ref 1002), (2, .int a2), (3, .int a3)], [.int (0 : Int32)], LAY, S)) (by rfl) ?_
    have e9 := Option.some.inj hf; subst e9
    exact aRetB hC hT hF rfl (Or.inl rfl) rfl
def J0_coder_7d493_1003 : Int32 := (0 : Int32)
set_option maxHeartbeats 4000000 in
set_option maxRecDepth 100000 in
theorem J_J0_coder_7d493_1003 (l : Launch) (g : aWg) (S : aSt) {r : Int32} (hf : J0_coder_7d493_1003 = r) : aJ l g yJ0_coder_7d493 M_J0_coder_7d493 [.ref 1003] LAY S (some (.int r)) LAY S 0 0 := by
  refine aJ_of (by decide +kernel) rfl (Nat.le_of_ble_eq_true rfl) (fun h => nomatch h) ?_
  intro C hg hl hC hz hF
  subst hg; subst hl
  have hT := ok_J0_coder_7d493
  unfold J0_coder_7d493_1003 at hf
  show aX C M_J0_coder_7d493 0 0 (0, [(0, .ref 1003)], [], LAY, S)
  refine aRun_ok hC hT 1 (cf' := (3, [(0, .ref 1003)], [.int (1 : Int32)], LAY, S)) (by rfl) ?_
  refine aIf_eq hC hT (tgt := 13) rfl (by decide) (fun h => absurd h (by decide)) (fun _ => ?_)
  refine aRun_ok hC hT 3 (cf' := (14, [(0, .ref 1003)], [.int (0 : Int32)], LAY, S)) (by rfl) ?_
  subst hf
  exact aRetZ hC hT hF rfl (by decide) rfl
def J0_length_8abf5_1003 : Int32 := ((5 : Int32) >>> ((0 : Int32) &&& 31))
set_option maxHeartbeats 4000000 in
set_option maxRecDepth 100000 in
theorem J_J0_length_8abf5_1003 (l : Launch) (g : aWg) (S : aSt) {r : Int32} (hf : J0_length_8abf5_1003 = r) : aJ l g yJ0_length_8abf5 M_J0_length_8abf5 [.ref 1003] LAY S (some (.int r)) LAY S 0 0 := by
  refine aJ_of (by decide +kernel) rfl (Nat.le_of_ble_eq_true rfl) (fun h => nomatch h) ?_
  intro C hg hl hC hz hF
  subst hg; subst hl
  have hT := ok_J0_length_8abf5
  unfold J0_length_8abf5_1003 at hf
  show aX C M_J0_length_8abf5 0 0 (0, [(0, .ref 1003)], [], LAY, S)
  refine aRun_ok hC hT 4 (cf' := (6, [(0, .ref 1003)], [.ref 1003, .int (5 : Int32)], LAY, S)) (by rfl) ?_
  refine aCallW (b := 1003) (As := []) (rest := [.int (5 : Int32)]) hC hT rfl k_J0_length_8abf5_335.1 _ _ k_J0_length_8abf5_335.2 (by decide) (by rfl) (by rfl) (Nat.le_of_ble_eq_true rfl) (by decide) (J_J0_coder_7d493_1003 C.2.2.1 C.1  S rfl) ?_
  refine aRun_ok hC hT 1 (cf' := (10, [(0, .ref 1003)], [.int ((5 : Int32) >>> ((0 : Int32) &&& 31))], LAY, S)) (by rfl) ?_
  subst hf
  exact aRetI hC hT hF rfl rfl
def J0_isLatin1_aae02_1003 : Int32 := (1 : Int32)
set_option maxHeartbeats 4000000 in
set_option maxRecDepth 100000 in
theorem J_J0_isLatin1_aae02_1003 (l : Launch) (g : aWg) (S : aSt) {r : Int32} (hf : J0_isLatin1_aae02_1003 = r) : aJ l g yJ0_isLatin1_aae02 M_J0_isLatin1_aae02 [.ref 1003] LAY S (some (.int r)) LAY S 0 0 := by
  refine aJ_of (by decide +kernel) rfl (Nat.le_of_ble_eq_true rfl) (fun h => nomatch h) ?_
  intro C hg hl hC hz hF
  subst hg; subst hl
  have hT := ok_J0_isLatin1_aae02
  unfold J0_isLatin1_aae02_1003 at hf
  show aX C M_J0_isLatin1_aae02 0 0 (0, [(0, .ref 1003)], [], LAY, S)
  refine aRun_ok hC hT 1 (cf' := (3, [(0, .ref 1003)], [.int (1 : Int32)], LAY, S)) (by rfl) ?_
  refine aIf_eq hC hT (tgt := 17) rfl (by decide) (fun h => absurd h (by decide)) (fun _ => ?_)
  refine aRun_ok hC hT 2 (cf' := (10, [(0, .ref 1003)], [.int (0 : Int32)], LAY, S)) (by rfl) ?_
  refine aIf_ne hC hT (tgt := 17) rfl (by decide) (fun h => absurd h (by decide)) (fun _ => ?_)
  refine aRun_ok hC hT 2 (cf' := (18, [(0, .ref 1003)], [.int (1 : Int32)], LAY, S)) (by rfl) ?_
  subst hf
  exact aRetB hC hT hF rfl (Or.inr rfl) rfl
def J1_charAt_3b067_1012 (N : Nat) (a1 : Int32) : Option (Int32) := (Option.bind (J0_checkIndex_df160 N a1 (5 : Int32)) (fun w1 => (if aIx a1 5 = true then (if narrow .char (.int ((((aByt.getD 1 []).getD a1.toNatClampNeg (0 : Int32)) &&& (255 : Int32)).toUInt32 % 65536).toInt32) = .int ((((aByt.getD 1 []).getD a1.toNatClampNeg (0 : Int32)) &&& (255 : Int32)).toUInt32 % 65536).toInt32 then some (((((aByt.getD 1 []).getD a1.toNatClampNeg (0 : Int32)) &&& (255 : Int32)).toUInt32 % 65536).toInt32) else none) else none)))
set_option maxHeartbeats 4000000 in
set_option maxRecDepth 100000 in
theorem J_J1_charAt_3b067_1012 (l : Launch) (g : aWg) (N : Nat) (a1 : Int32) (S : aSt) {r : Int32} (hf : J1_charAt_3b067_1012 N a1 = (some r)) : aJ l g yJ1_charAt_3b067 M_J1_charAt_3b067 [.ref 1012, .int a1] LAY S (some (.int r)) LAY S 0 0 := by
  refine aJ_of (by decide +kernel) rfl (Nat.le_of_ble_eq_true rfl) (fun h => nomatch h) ?_
  intro C hg hl hC hz hF
  subst hg; subst hl
  have hT := ok_J1_charAt_3b067
  unfold J1_charAt_3b067_1012 at hf
  show aX C M_J1_charAt_3b067 0 0 (0, [(0, .ref 1012), (1, .int a1)], [], LAY, S)
  refine aRun_ok hC hT 3 (cf' := (3, [(0, .ref 1012), (1, .int a1)], [.int (5 : Int32), .int a1], LAY, S)) (by rfl) ?_
  obtain ⟨w1, ew2, hf⟩ := aBnE hf
  refine aCallS (As := [.int a1, .int (5 : Int32)]) (rest := []) hC hT rfl k_J1_charAt_3b067_9.1 _ k_J1_charAt_3b067_9.2 (by rfl) (Nat.le_of_ble_eq_true rfl) (by decide) (J_J0_checkIndex_df160 C.2.2.1 C.1 N a1 (5 : Int32) S ew2) ?_
  refine aRun_ok hC hT 2 (cf' := (8, [(0, .ref 1012), (1, .int a1)], [.int a1, .ref 1012], LAY, S)) (by rfl) ?_
  obtain ⟨hin3, hf⟩ := aGdE hf
  refine aBald hC hT rfl (by decide) (by decide) hin3 ?_
  refine aRun_ok hC hT 3 (cf' := (14, [(0, .ref 1012), (1, .int a1)], [.int ((((aByt.getD 1 []).getD a1.toNatClampNeg (0 : Int32)) &&& (255 : Int32)).toUInt32 % 65536).toInt32], LAY, S)) (by rfl) ?_
  obtain ⟨hb4, hf⟩ := aGdE hf
  have e9 := Option.some.inj hf; subst e9
  exact aRetZ hC hT hF rfl hb4 rfl
def J0_charAt_5068e_1003 (N : Nat) (a1 : Int32) : Option (Int32) := (Option.bind (J1_charAt_3b067_1012 N a1) (fun w3 => (if narrow .char (.int w3) = .int w3 then some (w3) else none)))
set_option maxHeartbeats 4000000 in
set_option maxRecDepth 100000 in
theorem J_J0_charAt_5068e_1003 (l : Launch) (g : aWg) (N : Nat) (a1 : Int32) (S : aSt) {r : Int32} (hf : J0_charAt_5068e_1003 N a1 = (some r)) : aJ l g yJ0_charAt_5068e M_J0_charAt_5068e [.ref 1003, .int a1] LAY S (some (.int r)) LAY S 0 0 := by
  refine aJ_of (by decide +kernel) rfl (Nat.le_of_ble_eq_true rfl) (fun h => nomatch h) ?_
  intro C hg hl hC hz hF
  subst hg; subst hl
  have hT := ok_J0_charAt_5068e
  unfold J0_charAt_5068e_1003 at hf
  show aX C M_J0_charAt_5068e 0 0 (0, [(0, .ref 1003), (1, .int a1)], [], LAY, S)
  refine aRun_ok hC hT 1 (cf' := (1, [(0, .ref 1003), (1, .int a1)], [.ref 1003], LAY, S)) (by rfl) ?_
  refine aCallW (b := 1003) (As := []) (rest := []) hC hT rfl k_J0_charAt_5068e_492.1 _ _ k_J0_charAt_5068e_492.2 (by decide) (by rfl) (by rfl) (Nat.le_of_ble_eq_true rfl) (by decide) (J_J0_isLatin1_aae02_1003 C.2.2.1 C.1  S rfl) ?_
  refine aIf_eq hC hT (tgt := 16) rfl (by decide) (fun h => absurd h (by decide)) (fun _ => ?_)
  refine aRun_ok hC hT 3 (cf' := (12, [(0, .ref 1003), (1, .int a1)], [.int a1, .ref 1012], LAY, S)) (by rfl) ?_
  obtain ⟨w3, ew4, hf⟩ := aBnE hf
  refine aCallS (As := [.ref 1012, .int a1]) (rest := []) hC hT rfl k_J0_charAt_5068e_495.1 _ k_J0_charAt_5068e_495.2 (by rfl) (Nat.le_of_ble_eq_true rfl) (by decide) (J_J1_charAt_3b067_1012 C.2.2.1 C.1 N a1 S ew4) ?_
  obtain ⟨hb5, hf⟩ := aGdE hf
  have e9 := Option.some.inj hf; subst e9
  exact aRetZ hC hT hF rfl hb5 rfl
def X9_is_1_1003_b15 (N : Nat) (S : aSt) (rec15 : Int32 → Int32 → Option (Int32)) (v2 : Int32) (v4 : Int32) : Option (Int32) := (aLet (J0_length_8abf5_1003) (fun w4 => (if w4 ≤ v4 then some ((1 : Int32)) else (Option.bind (J0_charAt_5068e_1003 N v4) (fun w7 => (aLet (X6_at_2 (v2 + v4) S) (fun w9 => (if w7 = w9 then (rec15 v2 (v4 + (1 : Int32))) else some ((0 : Int32))))))))))
set_option maxHeartbeats 4000000 in
set_option maxRecDepth 100000 in
theorem X9_is_1_1003_b15_ok {C : aC} {N : Nat} {S : aSt} {rec15 : Int32 → Int32 → Option (Int32)} (hC : aCx C M_X9_is) {r : Int32} (hF : aFin C (some (.int r)) LAY S 0 0) (hrec15 : ∀ (v2 : Int32) (v4 : Int32), rec15 v2 v4 = (some r) → aX C M_X9_is 0 0 (15, [(0, .ref 1), (1, .ref 1003), (2, .int v2), (4, .int v4)], [], LAY, S)) (v2 : Int32) (v4 : Int32) (hf : X9_is_1_1003_b15 N S rec15 v2 v4 = (some r)) : aX C M_X9_is 0 0 (15, [(0, .ref 1), (1, .ref 1003), (2, .int v2), (4, .int v4)], [], LAY, S) := by
  have hT := ok_X9_is
  unfold X9_is_1_1003_b15 at hf
  refine aRun_ok hC hT 2 (cf' := (18, [(0, .ref 1), (1, .ref 1003), (2, .int v2), (4, .int v4)], [.ref 1003, .int v4], LAY, S)) (by rfl) ?_
  obtain ⟨w4, ew5, hf⟩ := aLetE hf
  refine aCallW (b := 1003) (As := []) (rest := [.int v4]) hC hT rfl k_X9_is_111.1 _ _ k_X9_is_111.2 (by decide) (by rfl) (by rfl) (Nat.le_of_ble_eq_true rfl) (by decide) (J_J0_length_8abf5_1003 C.2.2.1 C.1  S ew5) ?_
  refine aCmp_ge hC hT (tgt := 52) rfl (by decide) (fun hc6 => ?_) (fun hc6 => ?_)
  · have hf := aIfT hf hc6
    refine aRun_ok hC hT 1 (cf' := (53, [(0, .ref 1), (1, .ref 1003), (2, .int v2), (4, .int v4)], [.int (1 : Int32)], LAY, S)) (by rfl) ?_
    have e9 := Option.some.inj hf; subst e9
    exact aRetB hC hT hF rfl (Or.inr rfl) rfl
  · have hf := aIfF hf hc6
    refine aRun_ok hC hT 2 (cf' := (27, [(0, .ref 1), (1, .ref 1003), (2, .int v2), (4, .int v4)], [.int v4, .ref 1003], LAY, S)) (by rfl) ?_
    obtain ⟨w7, ew8, hf⟩ := aBnE hf
    refine aCallW (b := 1003) (As := [.int v4]) (rest := []) hC hT rfl k_X9_is_116.1 _ _ k_X9_is_116.2 (by decide) (by rfl) (by rfl) (Nat.le_of_ble_eq_true rfl) (by decide) (J_J0_charAt_5068e_1003 C.2.2.1 C.1 N v4 S ew8) ?_
    refine aRun_ok hC hT 5 (cf' := (38, [(0, .ref 1), (1, .ref 1003), (2, .int v2), (4, .int v4)], [.int (v2 + v4), .ref 2, .int w7], LAY, S)) (by rfl) ?_
    obtain ⟨w9, ew10, hf⟩ := aLetE hf
    refine aCallS (As := [.ref 2, .int (v2 + v4)]) (rest := [.int w7]) hC hT rfl k_X9_is_40.1 _ k_X9_is_40.2 (by rfl) (Nat.le_of_ble_eq_true rfl) (by decide) (J_X6_at_2 C.2.2.1 C.1 (v2 + v4) S ew10) ?_
    refine aCmp_eq hC hT (tgt := 46) rfl (by decide) (fun hc11 => ?_) (fun hc11 => ?_)
    · have hf := aIfT hf hc11
      refine aRun_ok hC hT 2 (cf' := (15, [(4, .int (v4 + (1 : Int32))), (0, .ref 1), (1, .ref 1003), (2, .int v2)], [], LAY, S)) (by rfl) ?_
      refine aLocs [1, 2, 3, 0] (lv' := [(0, .ref 1), (1, .ref 1003), (2, .int v2), (4, .int (v4 + (1 : Int32)))]) rfl ?_
      exact hrec15 v2 (v4 + (1 : Int32)) hf
    · have hf := aIfF hf hc11
      refine aRun_ok hC hT 1 (cf' := (45, [(0, .ref 1), (1, .ref 1003), (2, .int v2), (4, .int v4)], [.int (0 : Int32)], LAY, S)) (by rfl) ?_
      have e9 := Option.some.inj hf; subst e9
      exact aRetB hC hT hF rfl (Or.inl rfl) rfl
def X9_is_1_1003_l15 (N : Nat) (S : aSt) : Nat → Int32 → Int32 → Option (Int32)
  | 0 => fun _ _ => none
  | n + 1 => X9_is_1_1003_b15 N S (X9_is_1_1003_l15 N S n)
theorem X9_is_1_1003_l15_ok {C : aC} {N : Nat} {S : aSt} (hC : aCx C M_X9_is) {r : Int32} (hF : aFin C (some (.int r)) LAY S 0 0) : ∀ (n : Nat) (v2 : Int32) (v4 : Int32), X9_is_1_1003_l15 N S n v2 v4 = (some r) → aX C M_X9_is 0 0 (15, [(0, .ref 1), (1, .ref 1003), (2, .int v2), (4, .int v4)], [], LAY, S)
  | 0, _, _,  h => nomatch (show (none : Option (Int32)) = some _ from h)
  | n + 1, v2, v4,  h => X9_is_1_1003_b15_ok hC hF (fun v2 v4 h => X9_is_1_1003_l15_ok hC hF n v2 v4 h) v2 v4 h
def X9_is_1_1003 (N : Nat) (a2 : Int32) (a3 : Int32) (S : aSt) : Option (Int32) := (aLet (J0_length_8abf5_1003) (fun w1 => (if (a3 - a2) = w1 then (X9_is_1_1003_l15 N S N a2 (0 : Int32)) else some ((0 : Int32)))))
set_option maxHeartbeats 4000000 in
set_option maxRecDepth 100000 in
theorem J_X9_is_1_1003 (l : Launch) (g : aWg) (N : Nat) (a2 : Int32) (a3 : Int32) (S : aSt) {r : Int32} (hf : X9_is_1_1003 N a2 a3 S = (some r)) : aJ l g yX9_is M_X9_is [.ref 1, .ref 1003, .int a2, .int a3] LAY S (some (.int r)) LAY S 0 0 := by
  refine aJ_of (by decide +kernel) rfl (Nat.le_of_ble_eq_true rfl) (fun h => nomatch h) ?_
  intro C hg hl hC hz hF
  subst hg; subst hl
  have hT := ok_X9_is
  unfold X9_is_1_1003 at hf
  show aX C M_X9_is 0 0 (0, [(0, .ref 1), (1, .ref 1003), (2, .int a2), (3, .int a3)], [], LAY, S)
  refine aRun_ok hC hT 4 (cf' := (4, [(0, .ref 1), (1, .ref 1003), (2, .int a2), (3, .int a3)], [.ref 1003, .int (a3 - a2)], LAY, S)) (by rfl) ?_
  obtain ⟨w1, ew2, hf⟩ := aLetE hf
  refine aCallW (b := 1003) (As := []) (rest := [.int (a3 - a2)]) hC hT rfl k_X9_is_111.1 _ _ k_X9_is_111.2 (by decide) (by rfl) (by rfl) (Nat.le_of_ble_eq_true rfl) (by decide) (J_J0_length_8abf5_1003 C.2.2.1 C.1  S ew2) ?_
  refine aCmp_eq hC hT (tgt := 12) rfl (by decide) (fun hc3 => ?_) (fun hc3 => ?_)
  · have hf := aIfT hf hc3
    refine aRun_ok hC hT 2 (cf' := (15, [(4, .int (0 : Int32)), (0, .ref 1), (1, .ref 1003), (2, .int a2), (3, .int a3)], [], LAY, S)) (by rfl) ?_
    refine aLocs [1, 2, 3, 0] (lv' := [(0, .ref 1), (1, .ref 1003), (2, .int a2), (4, .int (0 : Int32))]) rfl ?_
    exact X9_is_1_1003_l15_ok hC hF N a2 (0 : Int32) hf
  · have hf := aIfF hf hc3
    refine aRun_ok hC hT 1 (cf' := (11, [(0, .ref 1), (1, .ref 1003), (2, .int a2), (3, .int a3)], [.int (0 : Int32)], LAY, S)) (by rfl) ?_
    have e9 := Option.some.inj hf; subst e9
    exact aRetB hC hT hF rfl (Or.inl rfl) rfl
