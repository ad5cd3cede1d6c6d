theorem r_entries {N k : Nat} {D : Dt} {rec7 : Int32 → aSt → Option aSt} (hN : 3000 ≤ N) (ok : okD D) (hk : k < 5) : ∀ (m j f : Nat) (L : List Sl) (S : aSt), j + m = D.1 → m < f → bef k j L → slR S L → lgR S D → (L ++ (List.range' j m).flatMap (gg D k)).length ≤ 1921 → ∃ T, X11_laySlips_42_l14 N rec7 f (nI k) (nI j) S = rec7 (nI (k + 1)) T ∧ slR T (L ++ (List.range' j m).flatMap (gg D k)) ∧ lgR T D ∧ bef (k + 1) 0 (L ++ (List.range' j m).flatMap (gg D k)) := by
  have he := ok.1
  intro m
  induction m with
  | zero =>
    intro j f L S hj hf hL hS hD hl
    obtain ⟨f, rfl⟩ : ∃ q, f = q + 1 := ⟨f - 1, by omega⟩
    have : j = D.1 := by omega
    subst this
    refine ⟨S, ?_, by simpa using hS, hD, fun x hx => ?_⟩
    · show X11_laySlips_42_b14 N rec7 (X11_laySlips_42_l14 N rec7 f) _ _ _ = _
      unfold X11_laySlips_42_b14 X11_laySlips_42_b34
      rw [hD.1, if_pos (Int32.le_refl _), nI_1]
    · obtain ⟨h1, h2⟩ := hL x (by simpa using hx)
      exact ⟨h1, by omega⟩
  | succ m ih =>
    intro j f L S hj hf hL hS hD hl
    obtain ⟨f, rfl⟩ : ∃ q, f = q + 1 := ⟨f - 1, by omega⟩
    rw [List.range'_succ, List.flatMap_cons] at hl ⊢
    have hl1 : L.length ≤ 1921 := by rw [List.length_append] at hl; omega
    rw [← List.append_assoc] at hl
    obtain ⟨T1, a1, a2, a3⟩ := r_kind hN ok (show j < D.1 by omega) hk hL hl1 hS hD
    obtain ⟨T, t1, t2, t3, t4⟩ := ih (j + 1) f (L ++ gg D k j) T1 (by omega) (by omega) (bef_app ok (by omega) hk hL) a2 a3 hl
    rw [List.append_assoc] at t2 t4
    refine ⟨T, ?_, t2, t3, t4⟩
    rw [← t1]
    show X11_laySlips_42_b14 N rec7 (X11_laySlips_42_l14 N rec7 f) _ _ _ = _
    unfold X11_laySlips_42_b14
    rw [hD.1, if_neg (by exact iNLE D.1 j (by omega)), a1]
    simp only [Option.bind_some]
    rw [nI_1]
theorem r_step {N k f : Nat} {D : Dt} {L : List Sl} {S : aSt} (hN : 3000 ≤ N) (ok : okD D) (hk : k < 5) (hL : bef k 0 L) (hS : slR S L) (hD : lgR S D) (hl : (L ++ fl (gg D k) D.1).length ≤ 1921) : ∃ T, X11_laySlips_42_l7 N (f + 1) (nI k) S = X11_laySlips_42_l7 N f (nI (k + 1)) T ∧ slR T (L ++ fl (gg D k) D.1) ∧ lgR T D ∧ bef (k + 1) 0 (L ++ fl (gg D k) D.1) := by
  have he := ok.1
  obtain ⟨T, t1, t2, t3, t4⟩ := r_entries (N := N) (k := k) (rec7 := X11_laySlips_42_l7 N f) hN ok hk D.1 0 N L S (by omega) (by omega) hL hS hD hl
  refine ⟨T, ?_, t2, t3, t4⟩
  rw [← t1]
  show X11_laySlips_42_b7 N (X11_laySlips_42_l7 N f) _ _ = _
  unfold X11_laySlips_42_b7
  rw [if_neg (by exact iNLE 5 k (by omega))]
  rfl
theorem r_end {N : Nat} {D : Dt} {L : List Sl} {S : aSt} (hN : 3000 ≤ N) (ok : okD D) (hL : bef 5 0 L) (hS : slR S L) (hD : lgR S D) (hl : (L ++ (gM D ++ fl (gC D) 6)).length ≤ 1921) : ∃ T, X11_laySlips_42_b40 N S = some T ∧ slR T (L ++ (gM D ++ fl (gC D) 6)) ∧ lgR T D := by
  have he := ok.1
  obtain ⟨hmi, hmi2⟩ := m_99 ok.2.2.2.2.1
  obtain ⟨n, hn, hab, h0⟩ := oAll_ab ok
  have ho : X11_outOf_42 N (-1 : Int32) S = some (oAll D) := by
    rw [X11_outOf_eq _ hD.1 he (by omega), outS_cong hD.2.1]
    rfl
  rw [← List.append_assoc] at hl ⊢
  have hlm := app_nil_len (B := []) (by rw [List.append_nil]; rw [List.append_assoc] at hl; exact app_nil_len hl : (L ++ (gM D ++ [])).length ≤ 1921)
  unfold X11_laySlips_42_b40
  rw [ho]
  simp only [Option.bind_some, aLet]
  have es : X11_size (oAll D) = nI n := hab
  have okL : ∀ x ∈ L, okS x := fun x hx => (hL x hx).1
  have pages : ∀ (M : List Sl) (S1 : aSt), (∀ x ∈ M, okS x) → slR S1 M → lgR S1 D → (M ++ fl (gC D) 6).length ≤ 1921 → ∃ T, X11_laySlips_42_b83 N S1 = some T ∧ slR T (M ++ fl (gC D) 6) ∧ lgR T D := fun M S1 k1 k2 k3 k4 => r_pages hN ok 6 0 N M S1 rfl (by omega) k1 k2 k3 k4
  have gMe : gM D = if n < 1 ∨ 999999 < n then [] else pc 5 (if oAll D ≤ 0 then 0 else 1) n (-oAll D) D.2.2.2.2.1.toNatClampNeg := by
    unfold gM
    rw [hab, nI_clamp (by omega)]
    by_cases c : n < 1 ∨ 999999 < n
    · rw [if_pos c, if_pos]
      rcases c with c | c
      · exact Or.inl (iLT n 1 c)
      · exact Or.inr (iLT 999999 n c)
    · rw [if_neg c, if_neg]
      intro h
      rcases h with h | h
      · exact iNLT n 1 (by omega) rfl rfl (by omega) h
      · exact iNLT 999999 n (by omega) rfl rfl (by omega) h
  rw [gMe] at hl hlm ⊢
  by_cases c0 : n < 1 ∨ 999999 < n
  · rw [if_pos c0, List.append_nil] at hl ⊢
    rcases c0 with c | c
    · rw [if_pos (h0.mpr (by omega))]
      exact pages L S okL hS hD hl
    · rw [if_neg (fun z => by have := h0.mp z; omega), es, if_pos (by exact iLT 999999 n c)]
      exact pages L S okL hS hD hl
  · rw [if_neg c0] at hl hlm ⊢
    rw [if_neg (fun z => by have := h0.mp z; omega), es, if_neg (by exact iNLT 999999 n (by omega))]
    unfold X11_laySlips_42_b70
    simp only [aLet]
    rw [es, hD.2.2.2.2.1]
    rw [List.length_append] at hlm
    have key : ∀ q : Nat, q < 2 → (L ++ pc 5 q n (-oAll D) D.2.2.2.2.1.toNatClampNeg ++ fl (gC D) 6).length ≤ 1921 → ∃ T, (Option.bind (X11_add_42 N (5 : Int32) (nI q) (nI n) (-oAll D) D.2.2.2.2.1 S) (fun w24 => X11_laySlips_42_b83 N w24)) = some T ∧ slR T (L ++ pc 5 q n (-oAll D) D.2.2.2.2.1.toNatClampNeg ++ fl (gC D) 6) ∧ lgR T D := by
      intro q hq hl3
      obtain ⟨T1, a1, a2, a3⟩ := r_app (k := 5) (p := q) (s := n) (w := D.2.2.2.2.1.toNatClampNeg) (c := -oAll D) hN (by omega) (by omega) (by omega) okL (by omega) (Or.inr ⟨by omega, fun x hx => by have := (hL x hx).2; omega⟩) hS hD
      rw [← hmi] at a1
      rw [show (5 : Int32) = nI 5 from rfl, a1]
      simp only [Option.bind_some]
      exact pages _ T1 (fun x hx => (List.mem_append.mp hx).elim (okL x) (fun h => (pc_ok (by omega) (by omega) (by omega) (by omega) h).1)) a2 a3 hl3
    by_cases c3 : oAll D ≤ 0
    · rw [if_pos c3] at hl ⊢
      rw [if_pos c3]
      exact key 0 (by omega) hl
    · rw [if_neg c3] at hl ⊢
      rw [if_neg c3]
      exact key 1 (by omega) hl
theorem r_laySlips {N : Nat} {D : Dt} {S : aSt} (hN : 3000 ≤ N) (ok : okD D) (hD : lgR S D) : ∃ T, X11_laySlips_42 N S = some T ∧ slR T (SL D) ∧ lgR T D := by
  have hl := SL_len ok
  have h0 : slR (aI S 42 23 (0 : Int32)) [] := ⟨by rw [gI]; rfl, fun i hi => by simp at hi⟩
  have hD0 : lgR (aI S 42 23 (0 : Int32)) D := by
    unfold lgR at *
    simp only [gI, gIa]
    exact hD
  unfold SL at hl ⊢
  have g0 : gg D 0 = gT D := by funext j; rfl
  have g1 : gg D 1 = gF D := by funext j; rfl
  have g2 : gg D 2 = gN D := by funext j; rfl
  have g3 : gg D 3 = gS D := by funext j; rfl
  have g4 : gg D 4 = gW D := by funext j; rfl
  obtain ⟨f, rfl⟩ : ∃ q, N = q + 6 := ⟨N - 6, by omega⟩
  obtain ⟨T0, a1, a2, a3, a4⟩ := r_step (N := f + 6) (f := f + 5) hN ok (show 0 < 5 by omega) (fun x hx => by simp at hx) h0 hD0 (by simp only [List.length_append, g0] at hl ⊢; simp only [List.length_nil]; omega)
  rw [g0, List.nil_append] at a2 a4
  obtain ⟨T1, b1, b2, b3, b4⟩ := r_step (N := f + 6) (f := f + 4) hN ok (show 1 < 5 by omega) a4 a2 a3 (by simp only [List.length_append, g1] at hl ⊢; omega)
  rw [g1] at b2 b4
  obtain ⟨T2, c1, c2, c3, c4⟩ := r_step (N := f + 6) (f := f + 3) hN ok (show 2 < 5 by omega) b4 b2 b3 (by simp only [List.length_append, g2] at hl ⊢; omega)
  rw [g2] at c2 c4
  obtain ⟨T3, d1, d2, d3, d4⟩ := r_step (N := f + 6) (f := f + 2) hN ok (show 3 < 5 by omega) c4 c2 c3 (by simp only [List.length_append, g3] at hl ⊢; omega)
  rw [g3] at d2 d4
  obtain ⟨T4, e1, e2, e3, e4⟩ := r_step (N := f + 6) (f := f + 1) hN ok (show 4 < 5 by omega) d4 d2 d3 (by simp only [List.length_append, g4] at hl ⊢; omega)
  rw [g4] at e2 e4
  obtain ⟨T, t1, t2, t3⟩ := r_end (N := f + 6) hN ok e4 e2 e3 (by simp only [List.length_append] at hl ⊢; omega)
  refine ⟨T, ?_, by simp only [List.append_assoc] at t2; exact t2, t3⟩
  unfold X11_laySlips_42
  rw [show X11_laySlips_42_l7 (f + 6) (f + 6) (0 : Int32) (aI S 42 23 (0 : Int32)) = _ from a1, b1, c1, d1, e1, ← t1]
  show X11_laySlips_42_b7 (f + 6) (X11_laySlips_42_l7 (f + 6) f) _ _ = _
  unfold X11_laySlips_42_b7
  rw [if_pos (by decide)]
