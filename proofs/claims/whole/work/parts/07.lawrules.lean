/-! the law's own script: an old cell, place 1000 -/
def aSc (C : aC) (L : Nat) (xs : Nat → Int32) : Prop := va_X (C.1.2.2.2 0) L xs C.2.2.2.2.2.1 C.2.2.2.2.2.1.heap ∧ C.1.2.2.2 0 < C.2.2.2.2.2.1.heap.size ∧ C.1.2.2.2 0 < C.1.2.2.1
section AS
variable {C : aC} {M : aM} {k n pc : Nat} {lv : List (Nat × Value)} {st : List Value} {lay : aLay} {S : aSt} {L : Nat} {xs : Nat → Int32}
theorem aIaldX (hC : aCx C M) (hT : aOK M) (hSc : aSc C L xs) {i : Int32} (hq : aLk M.2.2.2.2.2.2.1 pc = some (.iaload, 1)) (hin : aIx i L = true) (kk : aX C M k n (pc + 1, lv, .int (xs i.toNatClampNeg) :: st, lay, S)) : aX C M k n (pc, lv, .int i :: .ref 1000 :: st, lay, S) := by
  obtain ⟨g, p, l, e, R, s, m, args, below, meth, c, Q⟩ := C
  obtain ⟨hx, hb, hml, hown, hts, hK, hRo, hbs, hini, hlk, hret, hR⟩ := hC
  obtain ⟨h1, h2, h3⟩ := hSc
  intro H ls locs hP hz hl hS
  exact va_sld hx hb h1 h2 (A := aAg g) (Nat.not_le.mpr h3) hS (aIx_in hin) (aDc hT hq) (kk H ls locs hP hz hl hS)
theorem aAlenX (hC : aCx C M) (hT : aOK M) (hSc : aSc C L xs) (hq : aLk M.2.2.2.2.2.2.1 pc = some (.arraylength, 1)) (kk : aX C M k n (pc + 1, lv, .int (Int32.ofNat L) :: st, lay, S)) : aX C M k n (pc, lv, .ref 1000 :: st, lay, S) := by
  obtain ⟨g, p, l, e, R, s, m, args, below, meth, c, Q⟩ := C
  obtain ⟨hx, hb, hml, hown, hts, hK, hRo, hbs, hini, hlk, hret, hR⟩ := hC
  obtain ⟨h1, h2, h3⟩ := hSc
  intro H ls locs hP hz hl hS
  exact va_slen hx hb h1 h2 (A := aAg g) (Nat.not_le.mpr h3) hS (aDc hT hq) (kk H ls locs hP hz hl hS)
end AS
