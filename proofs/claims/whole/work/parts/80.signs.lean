/-! signs -/
def anyE (f : Nat → Bool) : Nat → Bool
  | 0 => false
  | k + 1 => anyE f k || f k
theorem anyE_mono {f : Nat → Bool} : ∀ {k m : Nat}, k ≤ m → anyE f k = true → anyE f m = true := by
  intro k m h
  induction m with
  | zero => intro h1; rw [show k = 0 by omega] at h1; exact h1
  | succ m ih =>
    intro h1
    by_cases c : k = m + 1
    · rw [← c]; exact h1
    · rw [anyE, ih (by omega) h1]; rfl
theorem anyE_cong {f g : Nat → Bool} : ∀ {m : Nat}, (∀ j, j < m → f j = g j) → anyE f m = anyE g m
  | 0, _ => rfl
  | m + 1, h => by rw [anyE, anyE, anyE_cong (fun j hj => h j (by omega)), h m (by omega)]
theorem anyE_0 {f : Nat → Bool} : ∀ {m : Nat}, (∀ j, j < m → f j = false) → anyE f m = false
  | 0, _ => rfl
  | m + 1, h => by rw [anyE, anyE_0 (fun j hj => h j (by omega)), h m (by omega)]; rfl
def nn (P : Nat → Int32) (j : Nat) : Nat := (P (5 * j + 1)).toNatClampNeg
theorem nn_ok {P : Nat → Int32} {e j : Nat} (h : okP P e) (hj : j < e) : P (5 * j + 1) = nI (nn P j) ∧ 1 ≤ nn P j ∧ nn P j ≤ 999999 := by
  obtain ⟨-, ⟨n, hn0, hn9, hn⟩, -⟩ := h j hj
  have : nn P j = n := by unfold nn; rw [hn, nI_clamp (by omega)]
  rw [this]
  exact ⟨hn, hn0, hn9⟩
def hsF (P : Nat → Int32) (g : Int32) (v j : Nat) : Bool := decide (P (5 * j) = g) && decide (nn P j = v)
def h2F (P : Nat → Int32) (g : Int32) (u j : Nat) : Bool := decide (P (5 * j) = g) && decide (2 * nn P j = u)
def ntF (P : Nat → Int32) (u j : Nat) : Bool := decide (9 * nn P j = u ∨ 10 * u = 9 * nn P j)
def tnF (u k : Nat) : Bool := decide (10 ^ (k + 1) = u)
theorem h2_hs {P : Nat → Int32} {g : Int32} {u e : Nat} : anyE (h2F P g u) e = (decide (u % 2 = 0) && anyE (hsF P g (u / 2)) e) := by
  by_cases c : u % 2 = 0
  · rw [decide_eq_true c, Bool.true_and]
    refine anyE_cong (fun j _ => ?_)
    unfold h2F hsF
    rw [show decide (2 * nn P j = u) = decide (nn P j = u / 2) from decide_eq_decide.mpr (by omega)]
  · rw [decide_eq_false c, Bool.false_and]
    refine anyE_0 (fun j _ => ?_)
    unfold h2F
    rw [decide_eq_false (show ¬ 2 * nn P j = u by omega), Bool.and_false]
theorem c_hasSum_l {N e v : Nat} {S : aSt} {g : Int32} (hS : S.1 8 0 = nI e) (he : e ≤ 30) (h : okP (S.2.2 9) e) (hv : v ≤ 29999970) : ∀ (m j f : Nat), j + m = e → m < f → anyE (hsF (S.2.2 9) g v) j = false → X2_hasSum_8_l2 N S f g (nI v) (nI j) = some (b32 (anyE (hsF (S.2.2 9) g v) e)) := by
  intro m
  induction m with
  | zero =>
    intro j f hj hf hu
    obtain ⟨f, rfl⟩ : ∃ q, f = q + 1 := ⟨f - 1, by omega⟩
    have : j = e := by omega
    subst this
    show X2_hasSum_8_b2 N S (X2_hasSum_8_l2 N S f) _ _ _ = _
    unfold X2_hasSum_8_b2
    rw [hS, if_pos (Int32.le_refl _), hu]
    rfl
  | succ m ih =>
    intro j f hj hf hu
    obtain ⟨f, rfl⟩ : ∃ q, f = q + 1 := ⟨f - 1, by omega⟩
    show X2_hasSum_8_b2 N S (X2_hasSum_8_l2 N S f) _ _ _ = _
    unfold X2_hasSum_8_b2 X2_hasSum_8_b32
    simp only [aLet]
    have h0 : X2_told_8 (nI j) (0 : Int32) S = S.2.2 9 (5 * j) := X2_told_eq (w := 0) (by omega)
    have h1 : X2_told_8 (nI j) (1 : Int32) S = S.2.2 9 (5 * j + 1) := X2_told_eq (w := 1) (by omega)
    obtain ⟨n1, n2, n3⟩ := nn_ok h (show j < e by omega)
    rw [hS, if_neg (by exact iNLE e j (by omega)), h0, h1, nI_1, n1]
    by_cases c : S.2.2 9 (5 * j) = g
    · rw [if_pos c]
      by_cases c2 : nn (S.2.2 9) j = v
      · rw [if_pos (by rw [c2]), anyE_mono (k := j + 1) (by omega) (by rw [anyE, hsF]; simp [c, c2])]; rfl
      · rw [if_neg (by rw [nI_eq (by omega) (by omega)]; exact c2)]
        exact ih (j + 1) f (by omega) (by omega) (by rw [anyE, hu, hsF]; simp [c2])
    · rw [if_neg c]
      exact ih (j + 1) f (by omega) (by omega) (by rw [anyE, hu, hsF]; simp [c])
theorem c_hasSum {N e v : Nat} {S : aSt} (g : Int32) (hN : 40 ≤ N) (hS : S.1 8 0 = nI e) (he : e ≤ 30) (h : okP (S.2.2 9) e) (hv : v ≤ 29999970) : X2_hasSum_8 N g (nI v) S = some (b32 (anyE (hsF (S.2.2 9) g v) e)) := c_hasSum_l hS he h hv e 0 N (by omega) (by omega) rfl
theorem t9 (n : Nat) : (9 : Int32) * nI n = nI (9 * n) := pk_mul 9 n
theorem t2 (n : Nat) : (2 : Int32) * nI n = nI (2 * n) := pk_mul 2 n
theorem c_nine_l {N e u : Nat} {S : aSt} (hS : S.1 8 0 = nI e) (he : e ≤ 30) (h : okP (S.2.2 9) e) (hu : u ≤ 29999970) : ∀ (m j f : Nat), j + m = e → m < f → anyE (ntF (S.2.2 9) u) j = false → X10_isNineTimesOrTenths_0_l2 N S f (nI u) (nI j) = some (b32 (anyE (ntF (S.2.2 9) u) e)) := by
  intro m
  induction m with
  | zero =>
    intro j f hj hf hq
    obtain ⟨f, rfl⟩ : ∃ q, f = q + 1 := ⟨f - 1, by omega⟩
    have : j = e := by omega
    subst this
    show X10_isNineTimesOrTenths_0_b2 N S (X10_isNineTimesOrTenths_0_l2 N S f) _ _ = _
    unfold X10_isNineTimesOrTenths_0_b2
    rw [hS, if_pos (Int32.le_refl _), hq]
    rfl
  | succ m ih =>
    intro j f hj hf hq
    obtain ⟨f, rfl⟩ : ∃ q, f = q + 1 := ⟨f - 1, by omega⟩
    show X10_isNineTimesOrTenths_0_b2 N S (X10_isNineTimesOrTenths_0_l2 N S f) _ _ = _
    unfold X10_isNineTimesOrTenths_0_b2
    simp only [aLet]
    have h1 : X2_told_8 (nI j) (1 : Int32) S = S.2.2 9 (5 * j + 1) := X2_told_eq (w := 1) (by omega)
    obtain ⟨n1, n2, n3⟩ := nn_ok h (show j < e by omega)
    rw [hS, if_neg (by exact iNLE e j (by omega)), h1, nI_1, n1, t9, t10]
    by_cases c : 9 * nn (S.2.2 9) j = u
    · rw [if_pos (by rw [c]), anyE_mono (k := j + 1) (by omega) (by rw [anyE, ntF]; simp [c])]; rfl
    · rw [if_neg (by rw [nI_eq (by omega) (by omega)]; omega)]
      by_cases c2 : 10 * u = 9 * nn (S.2.2 9) j
      · rw [if_pos (by rw [c2]), anyE_mono (k := j + 1) (by omega) (by rw [anyE, ntF, decide_eq_true (Or.inr c2), Bool.or_true])]; rfl
      · rw [if_neg (by rw [nI_eq (by omega) (by omega)]; exact c2)]
        exact ih (j + 1) f (by omega) (by omega) (by rw [anyE, hq, ntF, decide_eq_false (by omega)]; rfl)
theorem c_nine {N e u : Nat} {S : aSt} (hN : 40 ≤ N) (hS : S.1 8 0 = nI e) (he : e ≤ 30) (h : okP (S.2.2 9) e) (hu : u ≤ 29999970) : X10_isNineTimesOrTenths_0 N (nI u) S = some (b32 (anyE (ntF (S.2.2 9) u) e)) := c_nine_l hS he h hu e 0 N (by omega) (by omega) rfl
theorem c_tens_l {N u : Nat} (hu : u ≤ 29999970) : ∀ (m j f : Nat), j + m = 5 → m < f → anyE (tnF u) j = false → X0_isTens_l2 N f (nI u) (nI (j + 1)) = some (b32 (anyE (tnF u) 5)) := by
  intro m
  induction m with
  | zero =>
    intro j f hj hf hq
    obtain ⟨f, rfl⟩ : ∃ q, f = q + 1 := ⟨f - 1, by omega⟩
    have : j = 5 := by omega
    subst this
    show X0_isTens_b2 N (X0_isTens_l2 N f) _ _ = _
    unfold X0_isTens_b2
    rw [if_pos (by exact iLT 5 6 (by omega)), hq]
    rfl
  | succ m ih =>
    intro j f hj hf hq
    obtain ⟨f, rfl⟩ : ∃ q, f = q + 1 := ⟨f - 1, by omega⟩
    show X0_isTens_b2 N (X0_isTens_l2 N f) _ _ = _
    unfold X0_isTens_b2
    simp only [aLet]
    have hp := m_p10b (show j + 1 < 7 by omega)
    rw [if_neg (by exact iNLT 5 (j + 1) (by omega)), X6_at_1001_eq (by omega), nI_1]
    by_cases c : 10 ^ (j + 1) = u
    · rw [if_pos (by rw [c]), anyE_mono (k := j + 1) (by omega) (by rw [anyE, tnF]; simp [c])]; rfl
    · rw [if_neg (by rw [nI_eq (by omega) (by omega)]; exact fun z => c z.symm)]
      exact ih (j + 1) f (by omega) (by omega) (by rw [anyE, hq, tnF, decide_eq_false c]; rfl)
theorem c_tens {N u : Nat} (hN : 10 ≤ N) (hu : u ≤ 29999970) : X0_isTens N (nI u) = some (b32 (anyE (tnF u) 5)) := c_tens_l hu 5 0 N (by omega) (by omega) rfl
def sgv (b0 b1 b2 b3 b4 : Bool) : Int32 := nI ((if b0 = true then 1 else 0) + (if b1 = true then 2 else 0) + (if b2 = true then 4 else 0) + (if b3 = true then 8 else 0) + (if b4 = true then 16 else 0))
theorem sv1 (b0 : Bool) : sgv b0 false false false false ||| (2 : Int32) = sgv b0 true false false false := by cases b0 <;> decide
theorem sv2 (b0 b1 : Bool) : sgv b0 b1 false false false ||| (4 : Int32) = sgv b0 b1 true false false := by cases b0 <;> cases b1 <;> decide
theorem sv3 (b0 b1 b2 : Bool) : sgv b0 b1 b2 false false ||| (8 : Int32) = sgv b0 b1 b2 true false := by cases b0 <;> cases b1 <;> cases b2 <;> decide
theorem sv4 (b0 b1 b2 b3 : Bool) : sgv b0 b1 b2 b3 false ||| (16 : Int32) = sgv b0 b1 b2 b3 true := by cases b0 <;> cases b1 <;> cases b2 <;> cases b3 <;> decide
theorem c_sgn {N e u : Nat} {S : aSt} (g : Int32) (hN : 5000 ≤ N) (hS : S.1 8 0 = nI e) (he : e ≤ 30) (h : okP (S.2.2 9) e) (hu : u ≤ 29999970) : (if (nI u - nI u / (9 : Int32) * (9 : Int32)) = (0 : Int32) then X10_signs_0_b47 N S g (nI u) ((0 : Int32) ||| (1 : Int32)) else X10_signs_0_b47 N S g (nI u) (0 : Int32)) = some (sgv (decide (u % 9 = 0)) (anyE (h2F (S.2.2 9) g u) e) (anyE (hsF (S.2.2 9) g u) e) (anyE (tnF u) 5) (anyE (ntF (S.2.2 9) u) e)) := by
  have e9 : nI u - nI u / (9 : Int32) * (9 : Int32) = nI (u % 9) := pk_rem (d := 9) (by omega) (by omega) (by omega)
  have e2 : nI u - nI u / (2 : Int32) * (2 : Int32) = nI (u % 2) := pk_rem (d := 2) (by omega) (by omega) (by omega)
  have ed : nI u / (2 : Int32) = nI (u / 2) := pk_div (d := 2) (by omega) (by omega) (by omega)
  have k4 : ∀ b0 b1 b2 b3 : Bool, X10_signs_0_b105 N S (nI u) (sgv b0 b1 b2 b3 false) = some (sgv b0 b1 b2 b3 (anyE (ntF (S.2.2 9) u) e)) := by
    intro b0 b1 b2 b3
    unfold X10_signs_0_b105
    rw [c_nine (by omega) hS he h hu]
    simp only [Option.bind_some]
    by_cases c : anyE (ntF (S.2.2 9) u) e = true
    · rw [if_neg (fun q => (b32_0 _).mp q c), sv4, c]
    · rw [if_pos ((b32_0 _).mpr c), Bool.eq_false_iff.mpr c]
  have k3 : ∀ b0 b1 b2 : Bool, X10_signs_0_b91 N S (nI u) (sgv b0 b1 b2 false false) = some (sgv b0 b1 b2 (anyE (tnF u) 5) (anyE (ntF (S.2.2 9) u) e)) := by
    intro b0 b1 b2
    unfold X10_signs_0_b91
    rw [c_tens (by omega) hu]
    simp only [Option.bind_some]
    by_cases c : anyE (tnF u) 5 = true
    · rw [if_neg (fun q => (b32_0 _).mp q c), sv3, k4, c]
    · rw [if_pos ((b32_0 _).mpr c), k4, Bool.eq_false_iff.mpr c]
  have k2 : ∀ b0 b1 : Bool, X10_signs_0_b73 N S g (nI u) (sgv b0 b1 false false false) = some (sgv b0 b1 (anyE (hsF (S.2.2 9) g u) e) (anyE (tnF u) 5) (anyE (ntF (S.2.2 9) u) e)) := by
    intro b0 b1
    unfold X10_signs_0_b73
    rw [c_hasSum g (by omega) hS he h hu]
    simp only [Option.bind_some]
    by_cases c : anyE (hsF (S.2.2 9) g u) e = true
    · rw [if_neg (fun q => (b32_0 _).mp q c), sv2, k3, c]
    · rw [if_pos ((b32_0 _).mpr c), k3, Bool.eq_false_iff.mpr c]
  have k1 : ∀ b0 : Bool, X10_signs_0_b47 N S g (nI u) (sgv b0 false false false false) = some (sgv b0 (anyE (h2F (S.2.2 9) g u) e) (anyE (hsF (S.2.2 9) g u) e) (anyE (tnF u) 5) (anyE (ntF (S.2.2 9) u) e)) := by
    intro b0
    unfold X10_signs_0_b47
    rw [e2, ed, c_hasSum g (by omega) hS he h (show u / 2 ≤ 29999970 by omega), h2_hs]
    simp only [Option.bind_some]
    by_cases c0 : u % 2 = 0
    · rw [if_pos (by rw [c0]; rfl), decide_eq_true c0, Bool.true_and]
      by_cases c : anyE (hsF (S.2.2 9) g (u / 2)) e = true
      · rw [if_neg (fun q => (b32_0 _).mp q c), sv1, k2, c]
      · rw [if_pos ((b32_0 _).mpr c), k2, Bool.eq_false_iff.mpr c]
    · rw [if_neg (by exact iNE (u % 2) 0 c0), decide_eq_false c0, Bool.false_and, k2]
  rw [e9]
  by_cases c : u % 9 = 0
  · rw [if_pos (by rw [c]; rfl), show ((0 : Int32) ||| (1 : Int32)) = sgv true false false false false by decide, k1, decide_eq_true c]
  · rw [if_neg (by exact iNE (u % 9) 0 c), show (0 : Int32) = sgv false false false false false by decide, k1, decide_eq_false c]
theorem ite_iff' {p q : Prop} [Decidable p] [Decidable q] (h : p ↔ q) (x y : Int32) : (if p then x else y) = if q then x else y := by
  by_cases c : p
  · rw [if_pos c, if_pos (h.mp c)]
  · rw [if_neg c, if_neg (fun z => c (h.mpr z))]
theorem sD {N : Nat} {S : aSt} {rec45 : Int32 → Int32 → Int32 → Int32 → Option Int32} (v2 v3 v4 v5 v6 s0 : Int32) : X11_signs_42_b85 N S rec45 v2 v3 v4 v5 v6 s0 = rec45 v2 v3 (((v4 ||| (if s0 = 0 then 0 else if 2 * v6 = v2 then 2 else 0)) ||| (if s0 = 0 then 0 else if v6 = v2 then 4 else 0)) ||| (if 9 * v6 = v2 ∨ lg_cmp (10 * v2.toInt64) (9 * v6.toInt64) = 0 then 16 else 0)) (v5 + 1) := by
  have h1 : ∀ a b : Int32, X11_signs_42_b128 N S rec45 v2 v3 v5 v6 a b = rec45 v2 v3 ((b ||| a) ||| (if 9 * v6 = v2 ∨ lg_cmp (10 * v2.toInt64) (9 * v6.toInt64) = 0 then 16 else 0)) (v5 + 1) := by
    intro a b
    unfold X11_signs_42_b128 X11_signs_42_b159 X11_signs_42_b165
    by_cases c1 : 9 * v6 = v2
    · rw [if_pos c1, if_pos (Or.inl c1)]
    · rw [if_neg c1]
      by_cases c2 : lg_cmp (10 * v2.toInt64) (9 * v6.toInt64) = 0
      · rw [if_pos c2, if_pos (Or.inr c2)]
      · rw [if_neg c2, if_neg (fun z => z.elim c1 c2)]
  have h2 : ∀ a b : Int32, X11_signs_42_b107 N S rec45 v2 v3 v5 v6 s0 a b = X11_signs_42_b128 N S rec45 v2 v3 v5 v6 (if s0 = 0 then 0 else if v6 = v2 then 4 else 0) (b ||| a) := by
    intro a b
    unfold X11_signs_42_b107 X11_signs_42_b127
    by_cases c1 : s0 = 0
    · rw [if_pos c1, if_pos c1]
    · rw [if_neg c1, if_neg c1]
      by_cases c2 : v6 = v2
      · rw [if_pos c2, if_pos c2]
      · rw [if_neg c2, if_neg c2]
  unfold X11_signs_42_b85 X11_signs_42_b106
  by_cases c1 : s0 = 0
  · rw [if_pos c1, h2, h1, if_pos c1, if_pos c1]
  · rw [if_neg c1]
    by_cases c2 : 2 * v6 = v2
    · rw [if_pos c2, h2, h1, if_neg c1, if_neg c1, if_pos c2]
    · rw [if_neg c2, h2, h1, if_neg c1, if_neg c1, if_neg c2]
theorem sv5 : ∀ b0 b1 b2 b4 c1 c2 c4 : Bool, ((sgv b0 b1 b2 false b4 ||| (if c1 = true then (2 : Int32) else 0)) ||| (if c2 = true then (4 : Int32) else 0)) ||| (if c4 = true then (16 : Int32) else 0) = sgv b0 (b1 || c1) (b2 || c2) false (b4 || c4) := by decide +kernel
theorem sv6 : ∀ b0 b1 b2 b3 b4 c : Bool, sgv b0 b1 b2 b3 b4 ||| (if c = true then (8 : Int32) else 0) = sgv b0 b1 b2 (b3 || c) b4 := by decide +kernel
theorem r_tens_l {N u : Nat} {S : aSt} {b0 b1 b2 b4 : Bool} (hN : 10 ≤ N) (hu : u ≤ 29999970) : ∀ (m j f : Nat), j + m = 5 → m < f → X11_signs_42_l177 N S f (nI u) (sgv b0 b1 b2 (anyE (tnF u) j) b4) (nI (j + 1)) = some (sgv b0 b1 b2 (anyE (tnF u) 5) b4) := by
  intro m
  induction m with
  | zero =>
    intro j f hj hf
    obtain ⟨f, rfl⟩ : ∃ q, f = q + 1 := ⟨f - 1, by omega⟩
    have : j = 5 := by omega
    subst this
    show X11_signs_42_b177 N S (X11_signs_42_l177 N S f) _ _ _ = _
    unfold X11_signs_42_b177
    rw [if_pos (by exact iLE 6 6 (by omega))]
  | succ m ih =>
    intro j f hj hf
    obtain ⟨f, rfl⟩ : ∃ q, f = q + 1 := ⟨f - 1, by omega⟩
    show X11_signs_42_b177 N S (X11_signs_42_l177 N S f) _ _ _ = _
    unfold X11_signs_42_b177 X11_signs_42_b201
    have hp := m_p10b (show j + 1 < 7 by omega)
    rw [if_neg (by exact iNLE 6 (j + 1) (by omega)), X11_power_eq hN (by omega)]
    simp only [Option.bind_some]
    have hi := ih (j + 1) f (by omega) (by omega)
    rw [anyE, ← sv6] at hi
    rw [nI_1]
    by_cases c : 10 ^ (j + 1) = u
    · rw [tnF, decide_eq_true c, if_pos rfl] at hi
      rw [if_pos (by rw [c])]
      exact hi
    · rw [tnF, decide_eq_false c, if_neg (by decide)] at hi
      rw [if_neg (by rw [nI_eq (by omega) (by omega)]; exact c)]
      exact hi
theorem r_sgn_l {N e u : Nat} {S : aSt} {g : Int32} {P : Nat → Int32} {b0 : Bool} (hN : 5000 ≤ N) (hS : S.1 42 5 = nI e) (he : e ≤ 30) (h : okP P e) (hP : ∀ i, i < 5 * e → P i = S.2.2 45 i) (hu : u ≤ 29999970) : ∀ (m j f : Nat), j + m = e → m < f → X11_signs_42_l45 N S f (nI u) g (sgv b0 (anyE (h2F P g u) j) (anyE (hsF P g u) j) false (anyE (ntF P u) j)) (nI j) = some (sgv b0 (anyE (h2F P g u) e) (anyE (hsF P g u) e) (anyE (tnF u) 5) (anyE (ntF P u) e)) := by
  intro m
  induction m with
  | zero =>
    intro j f hj hf
    obtain ⟨f, rfl⟩ : ∃ q, f = q + 1 := ⟨f - 1, by omega⟩
    have : j = e := by omega
    subst this
    show X11_signs_42_b45 N S (X11_signs_42_l45 N S f) _ _ _ _ = _
    unfold X11_signs_42_b45 X11_signs_42_b174
    rw [hS, if_pos (Int32.le_refl _)]
    exact r_tens_l (by omega) hu 5 0 N (by omega) (by omega)
  | succ m ih =>
    intro j f hj hf
    obtain ⟨f, rfl⟩ : ∃ q, f = q + 1 := ⟨f - 1, by omega⟩
    show X11_signs_42_b45 N S (X11_signs_42_l45 N S f) _ _ _ _ = _
    unfold X11_signs_42_b45
    obtain ⟨n1, n2, n3⟩ := nn_ok h (show j < e by omega)
    have hi := ih (j + 1) f (by omega) (by omega)
    rw [anyE, anyE, anyE, ← sv5] at hi
    rw [hS, if_neg (by exact iNLE e j (by omega)), m_50, nI_1, if_pos (m_ix (show 5 * j + 1 < 150 by omega) (by decide)), if_pos (m_ix (show 5 * j < 150 by omega) (by decide)), nI_clamp (by omega), nI_clamp (by omega), ← hP (5 * j) (by omega), ← hP (5 * j + 1) (by omega), n1, sD, sD, t2, t9, nI_1]
    have l1 : lg_cmp (10 * (nI u).toInt64) (9 * (nI (nn P j)).toInt64) = 0 ↔ 10 * u = 9 * nn P j := by
      rw [nI_l (by omega), nI_l (by omega), lg_cmp_eq]
      rw [show (10 : Int64) * lN u = lN (10 * u) from lN_mul 10 u, show (9 : Int64) * lN (nn P j) = lN (9 * nn P j) from lN_mul 9 _, lN_eq (by omega) (by omega)]
    have x4 : (if nI (9 * nn P j) = nI u ∨ lg_cmp (10 * (nI u).toInt64) (9 * (nI (nn P j)).toInt64) = 0 then (16 : Int32) else 0) = if ntF P u j = true then 16 else 0 := by
      refine ite_iff' ?_ _ _
      rw [l1, nI_eq (by omega) (by omega)]
      unfold ntF
      simp only [decide_eq_true_eq]
    rw [x4]
    by_cases c : P (5 * j) = g
    · rw [if_pos c, if_neg n10, if_neg n10]
      have x1 : (if nI (2 * nn P j) = nI u then (2 : Int32) else 0) = if h2F P g u j = true then 2 else 0 := by
        refine ite_iff' ?_ _ _
        rw [nI_eq (by omega) (by omega)]
        unfold h2F
        simp only [c, decide_true, Bool.true_and, decide_eq_true_eq]
      have x2 : (if nI (nn P j) = nI u then (4 : Int32) else 0) = if hsF P g u j = true then 4 else 0 := by
        refine ite_iff' ?_ _ _
        rw [nI_eq (by omega) (by omega)]
        unfold hsF
        simp only [c, decide_true, Bool.true_and, decide_eq_true_eq]
      rw [x1, x2]
      exact hi
    · rw [if_neg c, if_pos rfl, if_pos rfl]
      have x1 : h2F P g u j = false := by unfold h2F; rw [decide_eq_false c, Bool.false_and]
      have x2 : hsF P g u j = false := by unfold hsF; rw [decide_eq_false c, Bool.false_and]
      rw [x1, x2] at hi
      exact hi
theorem r_sgn {N e u : Nat} {S : aSt} {P : Nat → Int32} (g : Int32) (hN : 5000 ≤ N) (hS : S.1 42 5 = nI e) (he : e ≤ 30) (h : okP P e) (hP : ∀ i, i < 5 * e → P i = S.2.2 45 i) (hu : u ≤ 29999970) : X11_signs_42_b27 N S (nI u) g = some (sgv (decide (u % 9 = 0)) (anyE (h2F P g u) e) (anyE (hsF P g u) e) (anyE (tnF u) 5) (anyE (ntF P u) e)) := by
  have e9 : nI u - nI u / (9 : Int32) * (9 : Int32) = nI (u % 9) := pk_rem (d := 9) (by omega) (by omega) (by omega)
  unfold X11_signs_42_b27 X11_signs_42_b40
  rw [e9]
  by_cases c : u % 9 = 0
  · rw [if_pos (by rw [c]; rfl), decide_eq_true c]
    exact r_sgn_l (b0 := true) hN hS he h hP hu e 0 N (by omega) (by omega)
  · rw [if_neg (by exact iNE (u % 9) 0 c), decide_eq_false c]
    exact r_sgn_l (b0 := false) hN hS he h hP hu e 0 N (by omega) (by omega)
theorem outS_ab {P : Nat → Int32} {e : Nat} {p : Int32} (h : okP P e) : ∀ j, j ≤ e → ∃ a b : Nat, a + b ≤ j * 999999 ∧ outS P p j = nI a - nI b := by
  intro j
  induction j with
  | zero => intro _; exact ⟨0, 0, Nat.zero_le _, by rw [outS]; decide⟩
  | succ j ih =>
    intro hj
    obtain ⟨a, b, hab, hv⟩ := ih (by omega)
    obtain ⟨-, ⟨n, hn0, hn9, hn⟩, -⟩ := h j (by omega)
    rw [outS]
    by_cases c : p = (-1 : Int32) ∨ P (5 * j + 4) = p
    · rw [if_pos c, hv]
      unfold outBy
      rw [hn]
      split
      · refine ⟨a + n, b, by omega, ?_⟩
        rw [← nI_add a n]
        simp only [Int32.sub_eq_add_neg, Int32.add_assoc]
        rw [Int32.add_comm (-nI b)]
      · refine ⟨a, b + n, by omega, ?_⟩
        rw [← nI_add b n]
        simp only [Int32.sub_eq_add_neg, Int32.neg_add, Int32.add_assoc]
    · rw [if_neg c]; exact ⟨a, b, Nat.le_trans hab (Nat.mul_le_mul_right _ (Nat.le_succ j)), hv⟩
theorem out_u {P : Nat → Int32} {e : Nat} {p : Int32} (h : okP P e) (he : e ≤ 30) : ∃ u : Nat, u ≤ 29999970 ∧ (outS P p e = nI u ∨ outS P p e = -nI u) := by
  obtain ⟨a, b, hab, hv⟩ := outS_ab (p := p) h e (Nat.le_refl _)
  have : e * 999999 ≤ 29999970 := by omega
  by_cases c : b ≤ a
  · exact ⟨a - b, by omega, Or.inl (by rw [hv, pk_sub c])⟩
  · refine ⟨b - a, by omega, Or.inr ?_⟩
    rw [hv, ← pk_sub (show a ≤ b by omega), Int32.neg_sub]
theorem m_signs {N : Nat} (hN : 5000 ≤ N) {S : aSt} (h : rE S) : ∃ r, X10_signs_0 N S = some r ∧ X11_signs_42 N S = some r := by
  obtain ⟨e, he, h1, h2, h3, h4⟩ := h
  obtain ⟨u, hu, ho⟩ := out_u (p := -1) h4 he
  unfold X10_signs_0 X11_signs_42
  rw [X2_outOf_eq _ h1 he (by omega), X11_outOf_eq _ h2 he (by omega), ← outS_cong h3]
  simp only [Option.bind_some, aLet]
  by_cases c : outS (S.2.2 9) (-1) e = 0
  · rw [if_pos c, if_pos c]; exact ⟨_, rfl, rfl⟩
  · rw [if_neg c, if_neg c]
    have hu0 : 0 < u := by
      rcases Nat.eq_zero_or_pos u with z | z
      · subst z; exact absurd (ho.elim (fun q => q) (fun q => q.trans (by decide))) c
      · exact z
    rcases ho with ho | ho
    · rw [ho, if_neg (by exact iNLE u 0 hu0), if_neg (by exact iNLE u 0 hu0)]
      unfold X10_signs_0_b25 X11_size J9_abs_0f7a4
      simp only [aLet]
      rw [if_pos (nI_pos' (by omega))]
      exact ⟨_, c_sgn 0 hN h1 he h4 hu, r_sgn 0 hN h2 he h4 h3 hu⟩
    · have hn : -nI u < 0 := by
        have := pk_sneg (a := 0) (b := u) (by omega) hu0
        rw [show nI 0 = 0 from rfl, Int32.zero_sub] at this
        exact this
      rw [ho, if_pos (Int32.le_of_lt hn), if_pos (Int32.le_of_lt hn)]
      unfold X10_signs_0_b25 X11_size J9_abs_0f7a4
      simp only [aLet]
      rw [if_neg (Int32.not_le.mpr hn), Int32.neg_neg]
      exact ⟨_, c_sgn 1 hN h1 he h4 hu, r_sgn 1 hN h2 he h4 h3 hu⟩
