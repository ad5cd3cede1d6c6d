/-! pairs: what they are -/
abbrev Ps : Type := Nat × Nat × Nat × Int32 × Int32
def ps0 : Ps := ⟨0, 0, 0, -1, -1⟩
def pst (D : Dt) (a b : Nat) (t : Ps) : Ps := ⟨t.1 + 1, t.2.1 + wA D a * wA D b, if t.2.2.1 < wA D a * wA D b then wA D a * wA D b else t.2.2.1, if t.2.2.1 < wA D a * wA D b then nI a else t.2.2.2.1, if t.2.2.1 < wA D a * wA D b then nI b else t.2.2.2.2⟩
def apart (D : Dt) (a b : Nat) : Bool := decide (¬ (kA D a = 6 ↔ kA D b = 6)) || decide (pA D a ≠ pA D b)
def pk (D : Dt) (a b : Nat) (c : Int32) : Bool := decide (kA D a ≠ 5) && decide (a < b) && decide (cA D b = c) && decide (kA D b ≠ 5) && apart D a b
/-- over the last r as the second one -/
def inn (D : Dt) (a : Nat) (c : Int32) : Nat → Ps → Ps
  | 0, t => t
  | r + 1, t => inn D a c r (if pk D a (nA D - (r + 1)) c = true then pst D a (nA D - (r + 1)) t else t)
/-- over the last r as the first one -/
def outr (D : Dt) (w : Int32) : Nat → Ps → Ps
  | 0, t => t
  | r + 1, t => outr D w r (inn D (nA D - (r + 1)) (w - cA D (nA D - (r + 1))) (nA D) t)
def pairsOf (D : Dt) (w : Int32) : Ps := outr D w (nA D) ps0
def okPs (t : Ps) (n : Nat) : Prop := t.1 ≤ n ∧ t.2.1 ≤ n * 96059601 ∧ t.2.2.1 ≤ 96059601 ∧ (t.1 = 0 → t.2.2.1 = 0 ∧ t.2.2.2.1 = -1) ∧ (t.1 ≠ 0 → ∃ a b : Nat, a < 1921 ∧ b < 1921 ∧ t.2.2.2.1 = nI a ∧ t.2.2.2.2 = nI b)
theorem wA_ok {D : Dt} (ok : okD D) {i : Nat} (hi : i < nA D) : 1 ≤ wA D i ∧ wA D i ≤ 9801 ∧ kA D i < 2 ^ 31 ∧ pA D i < 2 ^ 31 := by
  have hx := SL_ok ok (getD_mem (d := sl0) (i := i) (A := SL D) hi)
  exact ⟨hx.2.1, hx.2.2.1, hx.1.1, hx.1.2.1⟩
theorem okPs_pst {D : Dt} (ok : okD D) {a b n : Nat} {t : Ps} (ha : a < nA D) (hb : b < nA D) (h : okPs t n) : okPs (pst D a b t) (n + 1) := by
  have hlen : nA D ≤ 1921 := SL_len ok
  have w1 := wA_ok ok ha
  have w2 := wA_ok ok hb
  have hw : wA D a * wA D b ≤ 9801 * 9801 := Nat.mul_le_mul w1.2.1 w2.2.1
  have hp : 1 * 1 ≤ wA D a * wA D b := Nat.mul_le_mul w1.1 w2.1
  obtain ⟨h1, h2, h3, h4, h5⟩ := h
  unfold pst
  refine ⟨show t.1 + 1 ≤ n + 1 by omega, show t.2.1 + wA D a * wA D b ≤ (n + 1) * 96059601 by omega, ?_, fun z => by have : t.1 + 1 = 0 := z; omega, fun _ => ?_⟩
  · show (if t.2.2.1 < wA D a * wA D b then wA D a * wA D b else t.2.2.1) ≤ _
    split <;> omega
  · by_cases c : t.2.2.1 < wA D a * wA D b
    · refine ⟨a, b, by omega, by omega, if_pos c, if_pos c⟩
    · have : t.1 ≠ 0 := fun z => by have := (h4 z).1; omega
      obtain ⟨x, y, x1, y1, x2, y2⟩ := h5 this
      exact ⟨x, y, x1, y1, by rw [← x2]; exact if_neg c, by rw [← y2]; exact if_neg c⟩
theorem okPs_mono {t : Ps} {n m : Nat} (h : okPs t n) (hn : n ≤ m) : okPs t m := by
  obtain ⟨h1, h2, h3, h4, h5⟩ := h
  exact ⟨by omega, Nat.le_trans h2 (Nat.mul_le_mul_right _ hn), h3, h4, h5⟩
theorem okPs_inn {D : Dt} (ok : okD D) {a : Nat} {c : Int32} (ha : a < nA D) : ∀ (r n : Nat) (t : Ps), r ≤ nA D → okPs t n → okPs (inn D a c r t) (n + r)
  | 0, n, t, _, h => h
  | r + 1, n, t, hr, h => by
    rw [inn]
    have : okPs (if pk D a (nA D - (r + 1)) c = true then pst D a (nA D - (r + 1)) t else t) (n + 1) := by
      split
      · exact okPs_pst ok ha (by omega) h
      · exact okPs_mono h (by omega)
    have := okPs_inn ok (c := c) ha r (n + 1) _ (by omega) this
    rw [show n + 1 + r = n + (r + 1) by omega] at this
    exact this
theorem okPs_outr {D : Dt} (ok : okD D) {w : Int32} : ∀ (r n : Nat) (t : Ps), r ≤ nA D → okPs t n → okPs (outr D w r t) (n + r * nA D)
  | 0, n, t, _, h => by rw [Nat.zero_mul]; exact h
  | r + 1, n, t, hr, h => by
    rw [outr]
    have h1 := okPs_inn ok (c := w - cA D (nA D - (r + 1))) (show nA D - (r + 1) < nA D by omega) (nA D) n t (Nat.le_refl _) h
    have := okPs_outr ok (w := w) r _ _ (by omega) h1
    rw [show n + nA D + r * nA D = n + (r + 1) * nA D by rw [Nat.add_mul, Nat.one_mul]; omega] at this
    exact this
theorem okPs_pairs {D : Dt} (ok : okD D) (w : Int32) : okPs (pairsOf D w) 3690241 := by
  have hlen : nA D ≤ 1921 := SL_len ok
  have h0 : okPs ps0 0 := ⟨by decide, by decide, by decide, fun _ => ⟨rfl, rfl⟩, fun z => absurd rfl z⟩
  have := okPs_outr ok (w := w) (nA D) 0 ps0 (Nat.le_refl _) h0
  refine okPs_mono this ?_
  have : nA D * nA D ≤ 1921 * 1921 := Nat.mul_le_mul hlen hlen
  omega
theorem inn_skip {D : Dt} {a : Nat} {c : Int32} (ha : a < nA D) : ∀ (r : Nat) (t : Ps), nA D - (a + 1) ≤ r → r ≤ nA D → inn D a c r t = inn D a c (nA D - (a + 1)) t
  | 0, t, h, _ => by rw [show nA D - (a + 1) = 0 by omega]
  | r + 1, t, h, hr => by
    by_cases e : r + 1 = nA D - (a + 1)
    · rw [e]
    · rw [inn]
      have : pk D a (nA D - (r + 1)) c = false := by
        unfold pk
        rw [decide_eq_false (show ¬ a < nA D - (r + 1) by omega)]
        simp
      rw [this, if_neg (by decide)]
      exact inn_skip ha r t (by omega) (by omega)
theorem inn_5 {D : Dt} {a : Nat} {c : Int32} (h5 : kA D a = 5) : ∀ (r : Nat) (t : Ps), inn D a c r t = t
  | 0, t => rfl
  | r + 1, t => by
    rw [inn]
    have : pk D a (nA D - (r + 1)) c = false := by
      unfold pk
      rw [decide_eq_false (fun z => z h5)]
      simp
    rw [this, if_neg (by decide)]
    exact inn_5 h5 r t
theorem c_slA {S : aSt} {D : Dt} {i : Nat} (h : slC S (SL D)) (ok : okD D) (hi : i < nA D) : X8_kind_14 (nI i) S = nI (kA D i) ∧ X8_place_14 (nI i) S = nI (pA D i) ∧ X8_change_14 (nI i) S = cA D i ∧ X8_weight_14 (nI i) S = nI (wA D i) := by
  obtain ⟨h1, h2, -, h4, h5⟩ := c_slip h (SL_len ok) hi
  exact ⟨h1, h2, h4, h5⟩
theorem c_apart {S : aSt} {D : Dt} {a b : Nat} (h : slC S (SL D)) (ok : okD D) (ha : a < nA D) (hb : b < nA D) : X8_standApart_14 (nI a) (nI b) S = b32 (apart D a b) := by
  obtain ⟨a1, a2, -, -⟩ := c_slA h ok ha
  obtain ⟨b1, b2, -, -⟩ := c_slA h ok hb
  obtain ⟨-, -, ka, pa⟩ := wA_ok ok ha
  obtain ⟨-, -, kb, pb⟩ := wA_ok ok hb
  unfold X8_standApart_14 X8_standApart_14_b15 X8_standApart_14_b30 apart
  simp only [aLet]
  rw [a1, a2, b1, b2]
  have ep : (nI (pA D a) = nI (pA D b)) ↔ pA D a = pA D b := nI_eq pa pb
  have ea : (nI (kA D a) = (6 : Int32)) ↔ kA D a = 6 := nI_eq (b := 6) ka (by decide)
  have eb : (nI (kA D b) = (6 : Int32)) ↔ kA D b = 6 := nI_eq (b := 6) kb (by decide)
  by_cases c1 : kA D a = 6
  · by_cases c2 : kA D b = 6
    · rw [if_pos (ea.mpr c1), if_pos (eb.mpr c2), if_pos trivial]
      by_cases c3 : pA D a = pA D b
      · rw [if_pos (ep.mpr c3)]; simp [c1, c2, c3, b32]
      · rw [if_neg (fun z => c3 (ep.mp z))]; simp [c1, c2, c3, b32]
    · rw [if_pos (ea.mpr c1), if_neg (fun z => c2 (eb.mp z)), if_neg (by decide)]
      simp [c1, c2, b32]
  · by_cases c2 : kA D b = 6
    · rw [if_neg (fun z => c1 (ea.mp z)), if_pos (eb.mpr c2), if_neg (by decide)]
      simp [c1, c2, b32]
    · rw [if_neg (fun z => c1 (ea.mp z)), if_neg (fun z => c2 (eb.mp z)), if_pos trivial]
      by_cases c3 : pA D a = pA D b
      · rw [if_pos (ep.mpr c3)]; simp [c1, c2, c3, b32]
      · rw [if_neg (fun z => c3 (ep.mp z))]; simp [c1, c2, c3, b32]
