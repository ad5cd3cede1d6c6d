/-! slips: the reference lays all, to the end -/
theorem zI_nat (n : Nat) : Int32.ofInt (n : Int) = nI n := rfl
theorem outS_z {P : Nat → Int32} {p : Int32} : ∀ {e : Nat}, okP P e → ∃ z : Int, outS P p e = Int32.ofInt z ∧ -(e * 999999) ≤ z ∧ z ≤ e * 999999
  | 0, _ => ⟨0, rfl, by omega, by omega⟩
  | e + 1, h => by
    obtain ⟨z, h1, h2, h3⟩ := outS_z (P := P) (p := p) (e := e) (fun j hj => h j (by omega))
    obtain ⟨n, n1, n2, n3⟩ := (h e (by omega)).2.1
    rw [outS]
    split
    · have hb : ∃ y : Int, outBy P e = Int32.ofInt y ∧ -999999 ≤ y ∧ y ≤ 999999 := by
        unfold outBy
        rw [n3]
        split
        · exact ⟨(n : Int), rfl, by omega, by omega⟩
        · exact ⟨-(n : Int), by rw [Int32.ofInt_neg]; rfl, by omega, by omega⟩
      obtain ⟨y, y1, y2, y3⟩ := hb
      exact ⟨z + y, by rw [h1, y1, Int32.ofInt_add], by omega, by omega⟩
    · exact ⟨z, h1, by omega, by omega⟩
theorem ab_z {z : Int} (h1 : -(2 ^ 31) < z) (h2 : z < 2 ^ 31) : ab (Int32.ofInt z) = nI z.natAbs := by
  have ht : (Int32.ofInt z).toInt = z := Int32.toInt_ofInt_of_le (by omega) h2
  unfold ab
  by_cases c : 0 ≤ z
  · rw [if_pos (by rw [Int32.le_iff_toInt_le, ht]; exact c), ← zI_nat]
    congr 1; omega
  · rw [if_neg (by rw [Int32.le_iff_toInt_le, ht]; exact c), ← Int32.ofInt_neg, ← zI_nat]
    congr 1; omega
theorem oAll_ab {D : Dt} (ok : okD D) : ∃ n : Nat, n ≤ 29999970 ∧ ab (oAll D) = nI n ∧ (oAll D = 0 ↔ n = 0) := by
  have he := ok.1
  obtain ⟨z, h1, h2, h3⟩ := outS_z (P := D.2.1) (p := -1) (e := D.1) ok.2.1
  refine ⟨z.natAbs, by omega, ?_, ?_⟩
  · unfold oAll; rw [h1]; exact ab_z (by omega) (by omega)
  · unfold oAll
    rw [h1]
    have ht : (Int32.ofInt z).toInt = z := Int32.toInt_ofInt_of_le (by omega) (by omega)
    rw [← Int32.toInt_inj, ht]
    show z = 0 ↔ _
    omega
theorem r_used_l {N : Nat} {S : aSt} {D : Dt} {p : Int32} (hD : lgR S D) (ok : okD D) : ∀ (m j f : Nat), j + m = D.1 → m < f → X11_isUsed_42_l4 N S f p (b32 (us D.2.1 p j)) (nI j) = some (b32 (us D.2.1 p D.1)) := by
  have he := ok.1
  intro m
  induction m with
  | zero =>
    intro j f hj hf
    obtain ⟨f, rfl⟩ : ∃ q, f = q + 1 := ⟨f - 1, by omega⟩
    have : j = D.1 := by omega
    subst this
    show X11_isUsed_42_b4 N S (X11_isUsed_42_l4 N S f) _ _ _ = _
    unfold X11_isUsed_42_b4
    rw [hD.1, if_pos (Int32.le_refl _), if_pos (b32_01 _)]
  | succ m ih =>
    intro j f hj hf
    obtain ⟨f, rfl⟩ : ∃ q, f = q + 1 := ⟨f - 1, by omega⟩
    have hi := ih (j + 1) f (by omega) (by omega)
    rw [us] at hi
    show X11_isUsed_42_b4 N S (X11_isUsed_42_l4 N S f) _ _ _ = _
    unfold X11_isUsed_42_b4 X11_isUsed_42_b30 X11_isUsed_42_b35
    obtain ⟨a4, b4⟩ := r_P (w := 4) hD ok (show j < D.1 by omega) (by omega)
    rw [hD.1, if_neg (by exact iNLE D.1 j (by omega)), m_50, m_a4, if_pos a4, b4, nI_1]
    cases hu : us D.2.1 p j with
    | true =>
      rw [hu] at hi
      rw [if_neg (show ¬ b32 true = 0 by decide)]
      exact hi
    | false =>
      rw [hu, Bool.false_or] at hi
      rw [if_pos (show b32 false = 0 from rfl)]
      by_cases c : D.2.1 (5 * j + 4) = p
      · rw [if_pos c]
        simp only [c, decide_true] at hi
        exact hi
      · rw [if_neg c]
        simp only [c, decide_false] at hi
        exact hi
theorem r_used {N : Nat} {S : aSt} {D : Dt} (p : Int32) (hD : lgR S D) (ok : okD D) (hN : 40 ≤ N) : X11_isUsed_42 N p S = some (b32 (us D.2.1 p D.1)) := by
  have he := ok.1
  exact r_used_l hD ok D.1 0 N (by omega) (by omega)
theorem r_app {N k p s w : Nat} {c : Int32} {D : Dt} {L : List Sl} {S : aSt} (hN : 3000 ≤ N) (hp : p < 100) (hs : s < 2 ^ 31) (hw : w < 2 ^ 31) (hL : ∀ x ∈ L, okS x) (hl : L.length ≤ 2000) (hk : k = 6 ∨ (k < 6 ∧ ∀ x ∈ L, x.1 < k)) (hS : slR S L) (hD : lgR S D) : ∃ T, X11_add_42 N (nI k) (nI p) (nI s) c (nI w) S = some T ∧ slR T (L ++ pc k p s c w) ∧ lgR T D := by
  have := r_add (k := k) (A := L) (B := []) (D := D) (p := p) (s := s) (c := c) (w := w) (S := S) hN hw (by omega) hp hs (fun z hz => ⟨hL z hz, fun h => by
    rcases hk with hk | ⟨hk, hx⟩
    · exact h.1 hk
    · have := hx z hz; omega⟩) (fun z hz => by simp at hz) (by rw [List.append_nil]; exact hS) hD (by rw [List.append_nil]; omega)
  simp only [List.append_nil] at this
  exact this
theorem r_carry {N p : Nat} {D : Dt} {rec85 : Int32 → aSt → Option aSt} (hN : 3000 ≤ N) (ok : okD D) (hp : p < 6) (hu : us D.2.1 (nI p) D.1 = true) : ∀ (m k f : Nat) (L : List Sl) (S : aSt), k + m = 6 → m < f → (∀ x ∈ L, okS x) → slR S L → lgR S D → (L ++ (List.range' k m).flatMap (gK D p)).length ≤ 1921 → ∃ T, X11_laySlips_42_l93 N rec85 f (nI p) (nI k) S = rec85 (nI (p + 1)) T ∧ slR T (L ++ (List.range' k m).flatMap (gK D p)) ∧ lgR T D ∧ ∀ x ∈ (L ++ (List.range' k m).flatMap (gK D p)), okS x := by
  obtain ⟨hca, hca2⟩ := m_99 ok.2.2.2.2.2
  intro m
  induction m with
  | zero =>
    intro k f L S hk hf hL hS hD hl
    obtain ⟨f, rfl⟩ : ∃ q, f = q + 1 := ⟨f - 1, by omega⟩
    have : k = 6 := by omega
    subst this
    refine ⟨S, ?_, by simpa using hS, hD, by simpa using hL⟩
    show X11_laySlips_42_b93 N rec85 (X11_laySlips_42_l93 N rec85 f) _ _ _ = _
    unfold X11_laySlips_42_b93 X11_laySlips_42_b146
    rw [if_pos (by decide), nI_1]
  | succ m ih =>
    intro k f L S hk hf hL hS hD hl
    obtain ⟨f, rfl⟩ : ∃ q, f = q + 1 := ⟨f - 1, by omega⟩
    rw [List.range'_succ, List.flatMap_cons] at hl ⊢
    have hl1 := app_nil_len hl
    unfold gK at hl1
    rw [List.length_append] at hl1
    have hl2 : (L ++ pc 6 p k (-(nI (10 ^ k))) D.2.2.2.2.2.toNatClampNeg).length ≤ 1921 := by rw [List.length_append] at hl1 ⊢; omega
    rw [List.length_append] at hl2
    have q1 := pc_len 6 p k (-(nI (10 ^ k))) D.2.2.2.2.2.toNatClampNeg
    obtain ⟨T1, a1, a2, a3⟩ := r_app (k := 6) (p := p) (s := k) (w := D.2.2.2.2.2.toNatClampNeg) (c := -(nI (10 ^ k))) hN (by omega) (by omega) (by omega) hL (by omega) (Or.inl rfl) hS hD
    have hL1 : ∀ x ∈ L ++ pc 6 p k (-(nI (10 ^ k))) D.2.2.2.2.2.toNatClampNeg, okS x := fun x hx => (List.mem_append.mp hx).elim (hL x) (fun h => (pc_ok (by omega) (by omega) (by omega) (by omega) h).1)
    obtain ⟨T2, b1, b2, b3⟩ := r_app (k := 6) (p := p) (s := k) (w := D.2.2.2.2.2.toNatClampNeg) (c := nI (10 ^ k)) hN (by omega) (by omega) (by omega) hL1 (by rw [List.length_append]; omega) (Or.inl rfl) a2 a3
    have hL2 : ∀ x ∈ L ++ gK D p k, okS x := by
      unfold gK
      rw [← List.append_assoc]
      exact fun x hx => (List.mem_append.mp hx).elim (hL1 x) (fun h => (pc_ok (by omega) (by omega) (by omega) (by omega) h).1)
    rw [List.append_assoc] at b2
    rw [← List.append_assoc] at hl
    obtain ⟨T, t1, t2, t3, t4⟩ := ih (k + 1) f (L ++ gK D p k) T2 (by omega) (by omega) hL2 b2 b3 hl
    rw [List.append_assoc] at t2 t4
    refine ⟨T, ?_, t2, t3, t4⟩
    rw [← t1]
    show X11_laySlips_42_b93 N rec85 (X11_laySlips_42_l93 N rec85 f) _ _ _ = _
    unfold X11_laySlips_42_b93
    rw [if_neg (by exact iNLE 6 k (by omega)), r_used _ hD ok (by omega), hu]
    simp only [Option.bind_some]
    rw [if_neg (show ¬ b32 true = 0 by decide), X11_power_eq (by omega) (by omega)]
    simp only [Option.bind_some]
    rw [← hca] at a1 b1
    rw [hD.2.2.2.2.2, show (6 : Int32) = nI 6 from rfl, a1]
    simp only [Option.bind_some]
    rw [a3.2.2.2.2.2, b1]
    simp only [Option.bind_some]
    rw [nI_1]
theorem r_pages {N : Nat} {D : Dt} (hN : 3000 ≤ N) (ok : okD D) : ∀ (m p f : Nat) (L : List Sl) (S : aSt), p + m = 6 → m < f → (∀ x ∈ L, okS x) → slR S L → lgR S D → (L ++ (List.range' p m).flatMap (gC D)).length ≤ 1921 → ∃ T, X11_laySlips_42_l85 N f (nI p) S = some T ∧ slR T (L ++ (List.range' p m).flatMap (gC D)) ∧ lgR T D := by
  intro m
  induction m with
  | zero =>
    intro p f L S hp hf hL hS hD hl
    obtain ⟨f, rfl⟩ : ∃ q, f = q + 1 := ⟨f - 1, by omega⟩
    have : p = 6 := by omega
    subst this
    refine ⟨S, ?_, by simpa using hS, hD⟩
    show X11_laySlips_42_b85 N (X11_laySlips_42_l85 N f) _ _ = _
    unfold X11_laySlips_42_b85
    rw [if_pos (by decide)]
  | succ m ih =>
    intro p f L S hp hf hL hS hD hl
    obtain ⟨f, rfl⟩ : ∃ q, f = q + 1 := ⟨f - 1, by omega⟩
    rw [List.range'_succ, List.flatMap_cons] at hl ⊢
    have hl1 := app_nil_len hl
    rw [← List.append_assoc] at hl
    have step : ∃ T1, X11_laySlips_42_l85 N (f + 1) (nI p) S = X11_laySlips_42_l85 N f (nI (p + 1)) T1 ∧ slR T1 (L ++ gC D p) ∧ lgR T1 D ∧ ∀ x ∈ L ++ gC D p, okS x := by
      show ∃ T1, X11_laySlips_42_b85 N (X11_laySlips_42_l85 N f) _ _ = _ ∧ _
      unfold X11_laySlips_42_b85 gC
      unfold gC at hl1
      rw [if_neg (by exact iNLE 6 p (by omega))]
      cases hu : us D.2.1 (nI p) D.1 with
      | true =>
        rw [hu, if_pos rfl] at hl1
        rw [if_pos rfl]
        exact r_carry (N := N) (rec85 := X11_laySlips_42_l85 N f) hN ok (by omega) hu 5 1 N L S rfl (by omega) hL hS hD hl1
      | false =>
        rw [if_neg (by decide), List.append_nil]
        refine ⟨S, ?_, hS, hD, hL⟩
        obtain ⟨N', hN'⟩ : ∃ q, N = q + 1 := ⟨N - 1, by omega⟩
        have : X11_laySlips_42_l93 N (X11_laySlips_42_l85 N f) N (nI p) (1 : Int32) S = X11_laySlips_42_b93 N (X11_laySlips_42_l85 N f) (X11_laySlips_42_l93 N (X11_laySlips_42_l85 N f) N') (nI p) (1 : Int32) S := by
          conv => lhs; rw [show X11_laySlips_42_l93 N (X11_laySlips_42_l85 N f) N = X11_laySlips_42_l93 N (X11_laySlips_42_l85 N f) (N' + 1) by rw [← hN']]
          rfl
        rw [this]
        unfold X11_laySlips_42_b93 X11_laySlips_42_b146
        rw [if_neg (by decide), r_used _ hD ok (by omega), hu]
        simp only [Option.bind_some]
        rw [if_pos (show b32 false = 0 from rfl), nI_1]
    obtain ⟨T1, a1, a2, a3, a4⟩ := step
    obtain ⟨T, t1, t2, t3⟩ := ih (p + 1) f (L ++ gC D p) T1 (by omega) (by omega) a4 a2 a3 hl
    rw [List.append_assoc] at t2
    exact ⟨T, by rw [a1, t1], t2, t3⟩
