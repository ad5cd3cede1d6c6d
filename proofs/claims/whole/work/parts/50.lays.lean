/-! slips: the class lays all -/
theorem loopC {D : Dt} {F : Nat → Int32 → aSt → Option aSt} {X : aSt → Option aSt} {g : Nat → List Sl} {e : Nat} (step : ∀ f j L S, j < e → slC S L → lgC S D → (L ++ g j).length ≤ 1921 → ∃ T, F (f + 1) (nI j) S = F f (nI (j + 1)) T ∧ slC T (L ++ g j) ∧ lgC T D) (exit : ∀ f S, lgC S D → F (f + 1) (nI e) S = X S) : ∀ (m j f : Nat) (L : List Sl) (S : aSt), j + m = e → m < f → slC S L → lgC S D → (L ++ (List.range' j m).flatMap g).length ≤ 1921 → ∃ T, F f (nI j) S = X T ∧ slC T (L ++ (List.range' j m).flatMap g) ∧ lgC T D := by
  intro m
  induction m with
  | zero =>
    intro j f L S hj hf hS hD hl
    obtain ⟨f, rfl⟩ : ∃ q, f = q + 1 := ⟨f - 1, by omega⟩
    have : j = e := by omega
    subst this
    exact ⟨S, exit f S hD, by simpa using hS, hD⟩
  | succ m ih =>
    intro j f L S hj hf hS hD hl
    obtain ⟨f, rfl⟩ : ∃ q, f = q + 1 := ⟨f - 1, by omega⟩
    rw [List.range'_succ, List.flatMap_cons] at hl ⊢
    obtain ⟨T1, a1, a2, a3⟩ := step f j L S (by omega) hS hD (app_nil_len hl)
    rw [← List.append_assoc] at hl
    obtain ⟨T, b1, b2, b3⟩ := ih (j + 1) f _ T1 (by omega) (by omega) a2 a3 hl
    exact ⟨T, by rw [a1, b1], by rw [← List.append_assoc]; exact b2, b3⟩
def shN (n : Nat) : Nat := if n % 10 = 0 then n / 10 else 0
def loN (n : Nat) : Nat := if 99999 < n then 0 else n * 10
def gN (D : Dt) (j : Nat) : List Sl := ps D 2 j (shN (D.sm j)) (D.od j 2) ++ ps D 2 j (loN (D.sm j)) (D.od j 2)
def gS (D : Dt) (j : Nat) : List Sl := pc 3 j (D.sm j) ((-2) * outBy D.2.1 j) (D.od j 3)
def gW (D : Dt) (j : Nat) : List Sl := if twin D.2.1 j j = true then pc 4 j 0 (-outBy D.2.1 j) (D.od j 4) else []
def oAll (D : Dt) : Int32 := outS D.2.1 (-1) D.1
def ab (x : Int32) : Int32 := if (0 : Int32) ≤ x then x else -x
def gM (D : Dt) : List Sl := if ab (oAll D) < 1 ∨ 999999 < ab (oAll D) then [] else pc 5 (if oAll D ≤ 0 then 0 else 1) (ab (oAll D)).toNatClampNeg (-oAll D) D.2.2.2.2.1.toNatClampNeg
def us (P : Nat → Int32) (p : Int32) : Nat → Bool
  | 0 => false
  | k + 1 => us P p k || decide (P (5 * k + 4) = p)
def gK (D : Dt) (p k : Nat) : List Sl := pc 6 p k (-(nI (10 ^ k))) D.2.2.2.2.2.toNatClampNeg ++ pc 6 p k (nI (10 ^ k)) D.2.2.2.2.2.toNatClampNeg
def gC (D : Dt) (p : Nat) : List Sl := if us D.2.1 (nI p) D.1 = true then (List.range' 1 5).flatMap (gK D p) else []
def fl (g : Nat → List Sl) (m : Nat) : List Sl := (List.range' 0 m).flatMap g
def SL (D : Dt) : List Sl := fl (gT D) D.1 ++ (fl (gF D) D.1 ++ (fl (gN D) D.1 ++ (fl (gS D) D.1 ++ (fl (gW D) D.1 ++ (gM D ++ fl (gC D) 6)))))
theorem X0_shorter_eq {n : Nat} (hn : n < 2 ^ 31) : X0_shorter (nI n) = nI (shN n) := by
  unfold X0_shorter shN
  rw [show (10 : Int32) = nI 10 from rfl, pk_rem hn (by omega) (by omega), pk_div hn (by omega) (by omega)]
  by_cases c : n % 10 = 0
  · rw [if_pos (by rw [c]; rfl), if_pos c]
  · rw [if_neg (by exact iNE (n % 10) 0 c), if_neg c]; rfl
theorem X0_longer_eq {n : Nat} (hn : n < 2 ^ 31) : X0_longer (nI n) = nI (loN n) := by
  unfold X0_longer loN
  by_cases c : 99999 < n
  · rw [if_pos (by exact iLT 99999 n c), if_pos c]; rfl
  · rw [if_neg (by exact iNLT 99999 n (by omega)), if_neg c]
    show nI n * nI 10 = _
    rw [pk_mul]
theorem us_mono {P : Nat → Int32} {p : Int32} : ∀ {k m : Nat}, k ≤ m → us P p k = true → us P p m = true := by
  intro k m h
  induction m with
  | zero => intro h1; rw [show k = 0 by omega] at h1; exact h1
  | succ m ih =>
    intro h1
    by_cases c : k = m + 1
    · rw [← c]; exact h1
    · rw [us, ih (by omega) h1]; rfl
theorem c_used_l {N e : Nat} {S : aSt} {p : Int32} (hS : S.1 8 0 = nI e) (he : e ≤ 30) : ∀ (m j f : Nat), j + m = e → m < f → us (S.2.2 9) p j = false → X2_hasEntryOn_8_l2 N S f p (nI j) = some (b32 (us (S.2.2 9) p e)) := by
  intro m
  induction m with
  | zero =>
    intro j f hj hf hu
    obtain ⟨f, rfl⟩ : ∃ q, f = q + 1 := ⟨f - 1, by omega⟩
    have : j = e := by omega
    subst this
    show X2_hasEntryOn_8_b2 N S (X2_hasEntryOn_8_l2 N S f) _ _ = _
    unfold X2_hasEntryOn_8_b2
    rw [hS, if_pos (Int32.le_refl _), hu]
    rfl
  | succ m ih =>
    intro j f hj hf hu
    obtain ⟨f, rfl⟩ : ∃ q, f = q + 1 := ⟨f - 1, by omega⟩
    show X2_hasEntryOn_8_b2 N S (X2_hasEntryOn_8_l2 N S f) _ _ = _
    unfold X2_hasEntryOn_8_b2
    simp only [aLet]
    have h4 : X2_told_8 (nI j) (4 : Int32) S = S.2.2 9 (5 * j + 4) := X2_told_eq (w := 4) (by omega)
    rw [hS, if_neg (by exact iNLE e j (by omega)), h4, nI_1]
    by_cases c : S.2.2 9 (5 * j + 4) = p
    · rw [if_pos c, us_mono (k := j + 1) (by omega) (by rw [us]; simp [c])]; rfl
    · rw [if_neg c]; exact ih (j + 1) f (by omega) (by omega) (by rw [us, hu]; simp [c])
theorem c_used {N e : Nat} {S : aSt} (p : Int32) (hN : 40 ≤ N) (hS : S.1 8 0 = nI e) (he : e ≤ 30) : X2_hasEntryOn_8 N p S = some (b32 (us (S.2.2 9) p e)) := c_used_l hS he e 0 N (by omega) (by omega) rfl
theorem m_99 {x : Int32} (h : is99 x) : x = nI x.toNatClampNeg ∧ x.toNatClampNeg ≤ 99 := by
  obtain ⟨n, h1, h2⟩ := h
  have : x.toNatClampNeg = n := by rw [h2, nI_clamp (by omega)]
  rw [this]; exact ⟨h2, h1⟩
theorem c_carries {N p : Nat} {D : Dt} (ok : okD D) (hN : 40 ≤ N) (L : List Sl) (S : aSt) (hp : p < 6) (hS : slC S L) (hD : lgC S D) (hl : (L ++ gC D p).length ≤ 1921) : ∃ T, X8_putCarries_14 N (nI p) S = some T ∧ slC T (L ++ gC D p) ∧ lgC T D := by
  obtain ⟨hca, hca2⟩ := m_99 ok.2.2.2.2.2
  unfold X8_putCarries_14 gC
  unfold gC at hl
  rw [c_used (nI p) hN hD.1 ok.1, hD.2.1]
  simp only [Option.bind_some]
  cases hu : us D.2.1 (nI p) D.1 with
  | false =>
    rw [if_pos (show b32 false = 0 from rfl), if_neg (by decide), List.append_nil]
    exact ⟨S, rfl, hS, hD⟩
  | true =>
    rw [hu, if_pos rfl] at hl
    rw [if_neg (show ¬ b32 true = 0 by decide), if_pos rfl]
    refine loopC (D := D) (F := fun f k S => X8_putCarries_14_l14 N f (nI p) k S) (X := some) (g := gK D p) (e := 6) ?_ ?_ 5 1 N L S rfl (by omega) hS hD hl
    · intro f k L S hk hS hD hl
      unfold gK at hl ⊢
      have hl2 := app_nil_len hl
      rw [← List.append_assoc] at hl ⊢
      obtain ⟨a1, a2⟩ := X8_put_eq hS hD (by omega) hl2
      obtain ⟨b1, b2⟩ := X8_put_eq a1 a2 (by omega) hl
      refine ⟨_, ?_, b1, b2⟩
      show X8_putCarries_14_b14 N (X8_putCarries_14_l14 N f) _ _ _ = _
      unfold X8_putCarries_14_b14
      rw [if_neg (by exact iNLT 5 k (by omega)), X0_tens_eq (by omega)]
      simp only [aLet]
      rw [← hca] at a2 ⊢
      rw [← hD.2.2.2.2.2] at a2 ⊢
      have e2 := a2.2.2.2.2.2
      rw [show (6 : Int32) = nI 6 from rfl, e2, nI_1, hD.2.2.2.2.2]
    · intro f S hD
      show X8_putCarries_14_b14 N (X8_putCarries_14_l14 N f) _ _ _ = _
      unfold X8_putCarries_14_b14
      rw [if_pos (by decide)]
theorem c_missed {D : Dt} (ok : okD D) {L : List Sl} {S : aSt} (hS : slC S L) (hD : lgC S D) (hl : (L ++ gM D).length ≤ 1921) : slC (X8_putMissed_14 (oAll D) S) (L ++ gM D) ∧ lgC (X8_putMissed_14 (oAll D) S) D := by
  obtain ⟨hmi, hmi2⟩ := m_99 ok.2.2.2.2.1
  unfold X8_putMissed_14 gM
  unfold gM at hl
  have e1 : J9_abs_0f7a4 (oAll D) = ab (oAll D) := rfl
  rw [e1]
  simp only [aLet]
  by_cases c1 : ab (oAll D) < 1
  · rw [if_pos c1, if_pos (Or.inl c1), List.append_nil]; exact ⟨hS, hD⟩
  · by_cases c2 : 999999 < ab (oAll D)
    · rw [if_neg c1, if_pos c2, if_pos (Or.inr c2), List.append_nil]; exact ⟨hS, hD⟩
    · have c12 : ¬ (ab (oAll D) < 1 ∨ 999999 < ab (oAll D)) := fun h => h.elim c1 c2
      rw [if_neg c12] at hl
      rw [if_neg c1, if_neg c2, if_neg c12]
      have e2 : ab (oAll D) = nI (ab (oAll D)).toNatClampNeg := by
        obtain ⟨k, hk, h⟩ := m_nat (Int32.le_trans (by decide : (0 : Int32) ≤ 1) (Int32.not_lt.mp c1))
        rw [h, nI_clamp hk]
      unfold X8_putMissed_14_b27
      simp only [aLet]
      have key : ∀ q : Nat, (L ++ pc 5 q (ab (oAll D)).toNatClampNeg (-oAll D) D.2.2.2.2.1.toNatClampNeg).length ≤ 1921 → slC (X8_put_14 (5 : Int32) (nI q) (ab (oAll D)) (-oAll D) (S.1 8 1) S) (L ++ pc 5 q (ab (oAll D)).toNatClampNeg (-oAll D) D.2.2.2.2.1.toNatClampNeg) ∧ lgC (X8_put_14 (5 : Int32) (nI q) (ab (oAll D)) (-oAll D) (S.1 8 1) S) D := by
        intro q hq
        have := X8_put_eq (k := 5) hS hD (show D.2.2.2.2.1.toNatClampNeg < 2 ^ 31 by omega) hq
        rw [← hmi, ← e2] at this
        rw [hD.2.2.2.2.1]
        exact this
      by_cases c3 : oAll D ≤ 0
      · rw [if_pos c3] at hl ⊢
        rw [if_pos c3]
        exact key 0 hl
      · rw [if_neg c3] at hl ⊢
        rw [if_neg c3]
        exact key 1 hl
theorem rows_fr {W : aWr} {S T : aSt} {L : List Sl} (h : slC S L) (f : aFr W S T) (q : (14, 0) ∉ W.1 ∧ 15 ∉ W.2.2 ∧ 16 ∉ W.2.2 ∧ 17 ∉ W.2.2 ∧ 18 ∉ W.2.2 ∧ 19 ∉ W.2.2) : slC T L := by
  obtain ⟨q1, q2, q3, q4, q5, q6⟩ := q
  unfold slC
  rw [f.1 _ _ q1, f.2.2 _ q2, f.2.2 _ q3, f.2.2 _ q4, f.2.2 _ q5, f.2.2 _ q6]
  exact h
/-- the class's build up to the chains -/
theorem c_build {N : Nat} {D : Dt} (ok : okD D) (hN : 3000 ≤ N) {S : aSt} (hD : lgC S D) (hl : (SL D).length ≤ 1921) : ∃ T, X8_build_14 N S = X8_build_14_b280 N T ∧ slC T (SL D) ∧ lgC T D := by
  have he := ok.1
  have h0 : slC (aI S 14 0 (0 : Int32)) [] := ⟨by rw [gI]; rfl, fun i hi => by simp at hi⟩
  have hD0 : lgC (aI S 14 0 (0 : Int32)) D := by
    unfold lgC at *
    simp only [gI, gIa]
    exact hD
  unfold SL at hl ⊢
  have lt : ∀ j, j < D.1 → j < 30 := fun j hj => by omega
  have t1 : ∀ {S : aSt} {j : Nat}, lgC S D → j < D.1 → X2_told_8 (nI j) (1 : Int32) S = nI (D.sm j) := fun hD hj => by
    rw [show X2_told_8 (nI _) (1 : Int32) _ = D.2.1 _ from c_told (w := 1) hD ok hj (by omega)]; exact (ok.sm hj).1
  have L1 : (fl (gT D) D.1).length ≤ 1921 := by simp only [List.length_append] at hl; omega
  obtain ⟨T1, a1, a2, a3⟩ := loopC (D := D) (F := X8_build_14_l7 N) (X := X8_build_14_b44 N) (g := gT D) (e := D.1) (by
    intro f j L S hj hS hD hl
    obtain ⟨T, b1, b2, b3⟩ := c_turns (N := N) (by omega) ok hj hS hD hl
    refine ⟨T, ?_, b2, b3⟩
    show X8_build_14_b7 N (X8_build_14_l7 N f) _ _ = _
    unfold X8_build_14_b7
    have := c_odds (k := 0) hD ok hj (by omega)
    rw [hD.1, if_neg (by exact iNLE D.1 j hj), t1 hD hj, show X8_oddsAt_14 (nI j) (0 : Int32) S = nI (D.od j 0) from this]
    simp only [aLet]
    rw [b1]
    simp only [Option.bind_some]
    rw [nI_1]) (by
    intro f S hD
    show X8_build_14_b7 N (X8_build_14_l7 N f) _ _ = _
    unfold X8_build_14_b7
    rw [hD.1, if_pos (Int32.le_refl _)]) D.1 0 N [] _ (by omega) (by omega) h0 hD0 (by simpa [fl] using L1)
  have L2 : (fl (gT D) D.1 ++ fl (gF D) D.1).length ≤ 1921 := by simp only [List.length_append] at hl ⊢; omega
  obtain ⟨T2, b1, b2, b3⟩ := loopC (D := D) (F := X8_build_14_l46 N) (X := X8_build_14_b83 N) (g := gF D) (e := D.1) (by
    intro f j L S hj hS hD hl
    obtain ⟨T, b1, b2, b3⟩ := c_figs (N := N) (by omega) ok hj hS hD hl
    refine ⟨T, ?_, b2, b3⟩
    show X8_build_14_b46 N (X8_build_14_l46 N f) _ _ = _
    unfold X8_build_14_b46
    have := c_odds (k := 1) hD ok hj (by omega)
    rw [hD.1, if_neg (by exact iNLE D.1 j hj), t1 hD hj, show X8_oddsAt_14 (nI j) (1 : Int32) S = nI (D.od j 1) from this]
    simp only [aLet]
    rw [b1]
    simp only [Option.bind_some]
    rw [nI_1]) (by
    intro f S hD
    show X8_build_14_b46 N (X8_build_14_l46 N f) _ _ = _
    unfold X8_build_14_b46
    rw [hD.1, if_pos (Int32.le_refl _)]) D.1 0 N (fl (gT D) D.1) T1 (by omega) (by omega) (by simpa [fl] using a2) a3 L2
  have L3 : (fl (gT D) D.1 ++ fl (gF D) D.1 ++ fl (gN D) D.1).length ≤ 1921 := by simp only [List.length_append] at hl ⊢; omega
  obtain ⟨T3, c1, c2, c3⟩ := loopC (D := D) (F := X8_build_14_l85 N) (X := X8_build_14_b144 N) (g := gN D) (e := D.1) (by
    intro f j L S hj hS hD hl
    have hn := (ok.sm hj).2.2
    unfold gN at hl ⊢
    have hl2 := app_nil_len hl
    rw [← List.append_assoc] at hl ⊢
    have ho := (ok.od (k := 2) hj (by omega)).2
    obtain ⟨q1, q2⟩ := c_putSum (k := 2) hS hD ok hj (show shN (D.sm j) < 2 ^ 31 by unfold shN; split <;> omega) (by omega) hl2
    obtain ⟨r1, r2⟩ := c_putSum (k := 2) q1 q2 ok hj (show loN (D.sm j) < 2 ^ 31 by unfold loN; split <;> omega) (by omega) hl
    refine ⟨_, ?_, r1, r2⟩
    show X8_build_14_b85 N (X8_build_14_l85 N f) _ _ = _
    unfold X8_build_14_b85
    have o1 := c_odds (k := 2) hD ok hj (by omega)
    have o2 := c_odds (k := 2) q2 ok hj (by omega)
    rw [hD.1, if_neg (by exact iNLE D.1 j hj), t1 hD hj, show X8_oddsAt_14 (nI j) (2 : Int32) S = nI (D.od j 2) from o1]
    simp only [aLet]
    rw [X0_shorter_eq (by omega), X0_longer_eq (by omega), show (2 : Int32) = nI 2 from rfl, o2, nI_1]) (by
    intro f S hD
    show X8_build_14_b85 N (X8_build_14_l85 N f) _ _ = _
    unfold X8_build_14_b85
    rw [hD.1, if_pos (Int32.le_refl _)]) D.1 0 N (fl (gT D) D.1 ++ fl (gF D) D.1) T2 (by omega) (by omega) b2 b3 L3
  have L4 : (fl (gT D) D.1 ++ fl (gF D) D.1 ++ fl (gN D) D.1 ++ fl (gS D) D.1).length ≤ 1921 := by simp only [List.length_append] at hl ⊢; omega
  obtain ⟨T4, d1, d2, d3⟩ := loopC (D := D) (F := X8_build_14_l146 N) (X := X8_build_14_b197 N) (g := gS D) (e := D.1) (by
    intro f j L S hj hS hD hl
    have hn := (ok.sm hj).2.2
    unfold gS at hl ⊢
    have ho := (ok.od (k := 3) hj (by omega)).2
    obtain ⟨q1, q2⟩ := X8_put_eq hS hD (by omega) hl
    refine ⟨_, ?_, q1, q2⟩
    show X8_build_14_b146 N (X8_build_14_l146 N f) _ _ = _
    unfold X8_build_14_b146
    have o1 := c_odds (k := 3) hD ok hj (by omega)
    rw [hD.1, if_neg (by exact iNLE D.1 j hj), t1 hD hj, show X8_oddsAt_14 (nI j) (3 : Int32) S = nI (D.od j 3) from o1, X2_outBy_eq (lt j hj), hD.2.1]
    simp only [aLet]
    rw [nI_1]
    rfl) (by
    intro f S hD
    show X8_build_14_b146 N (X8_build_14_l146 N f) _ _ = _
    unfold X8_build_14_b146
    rw [hD.1, if_pos (Int32.le_refl _)]) D.1 0 N _ T3 (by omega) (by omega) c2 c3 L4
  have L5 : (fl (gT D) D.1 ++ fl (gF D) D.1 ++ fl (gN D) D.1 ++ fl (gS D) D.1 ++ fl (gW D) D.1).length ≤ 1921 := by simp only [List.length_append] at hl ⊢; omega
  obtain ⟨T5, e1, e2, e3⟩ := loopC (D := D) (F := X8_build_14_l199 N) (X := X8_build_14_b249 N) (g := gW D) (e := D.1) (by
    intro f j L S hj hS hD hl
    unfold gW at hl ⊢
    have ho := (ok.od (k := 4) hj (by omega)).2
    cases ht : twin D.2.1 j j with
    | false =>
      rw [if_neg (by decide), List.append_nil]
      refine ⟨S, ?_, hS, hD⟩
      show X8_build_14_b199 N (X8_build_14_l199 N f) _ _ = _
      unfold X8_build_14_b199 X8_build_14_b243
      rw [hD.1, if_neg (by exact iNLE D.1 j hj), X2_hasTwin_eq (by omega) (lt j hj), hD.2.1, ht]
      simp only [Option.bind_some]
      rw [if_pos (show b32 false = 0 from rfl), nI_1]
    | true =>
      rw [ht, if_pos rfl] at hl
      rw [if_pos rfl]
      obtain ⟨q1, q2⟩ := X8_put_eq hS hD (by omega) hl
      refine ⟨_, ?_, q1, q2⟩
      show X8_build_14_b199 N (X8_build_14_l199 N f) _ _ = _
      unfold X8_build_14_b199 X8_build_14_b243
      have o1 := c_odds (k := 4) hD ok hj (by omega)
      rw [hD.1, if_neg (by exact iNLE D.1 j hj), X2_hasTwin_eq (by omega) (lt j hj), X2_outBy_eq (lt j hj), show X8_oddsAt_14 (nI j) (4 : Int32) S = nI (D.od j 4) from o1, hD.2.1, ht]
      simp only [Option.bind_some, aLet]
      rw [if_neg (show ¬ b32 true = 0 by decide), nI_1]
      rfl) (by
    intro f S hD
    show X8_build_14_b199 N (X8_build_14_l199 N f) _ _ = _
    unfold X8_build_14_b199
    rw [hD.1, if_pos (Int32.le_refl _)]) D.1 0 N _ T4 (by omega) (by omega) d2 d3 L5
  obtain ⟨f1, f2⟩ := c_missed ok e2 e3 (by simp only [fl, List.length_append] at hl ⊢; omega)
  obtain ⟨T6, g1, g2, g3⟩ := loopC (D := D) (F := X8_build_14_l263 N) (X := X8_build_14_b280 N) (g := gC D) (e := 6) (by
    intro f j L S hj hS hD hl
    obtain ⟨T, b1, b2, b3⟩ := c_carries (N := N) ok (by omega) L S hj hS hD hl
    refine ⟨T, ?_, b2, b3⟩
    show X8_build_14_b263 N (X8_build_14_l263 N f) _ _ = _
    unfold X8_build_14_b263
    rw [if_neg (by exact iNLE 6 j hj), b1]
    simp only [Option.bind_some]
    rw [nI_1]) (by
    intro f S hD
    show X8_build_14_b263 N (X8_build_14_l263 N f) _ _ = _
    unfold X8_build_14_b263
    rw [if_pos (by decide)]) 6 0 N _ _ rfl (by omega) f1 f2 (by simp only [fl, List.length_append] at hl ⊢; omega)
  refine ⟨T6, ?_, by simp only [List.append_assoc, fl] at g2 ⊢; exact g2, g3⟩
  unfold X8_build_14
  rw [show (0 : Int32) = nI 0 from rfl] at *
  rw [a1]
  unfold X8_build_14_b44
  rw [show (0 : Int32) = nI 0 from rfl, b1]
  unfold X8_build_14_b83
  rw [show (0 : Int32) = nI 0 from rfl, c1]
  unfold X8_build_14_b144
  rw [show (0 : Int32) = nI 0 from rfl, d1]
  unfold X8_build_14_b197
  rw [show (0 : Int32) = nI 0 from rfl, e1]
  unfold X8_build_14_b249
  rw [X2_outOf_eq _ e3.1 he (by omega), e3.2.1]
  simp only [Option.bind_some, aLet]
  exact g1
