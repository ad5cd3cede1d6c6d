/-! what is worked out, and when it holds -/
def qA : Sl → Bool := fun _ => true
def Der (S : aSt) (D : Dt) (d : Nat) (V : Nat → Int32) : Prop := slC S (SL D) ∧ sg22 S D (SI D qA) ∧ sg25 S D (SI D (nar D d V)) ∧ psC28 S (pairsOf D (-oAll D)) ∧ psC29 S (pairsOf D 0) ∧ lk30 S D qA ∧ lk34 S D (nar D d V)
def Dof (S : aSt) : Dt := ⟨(S.1 8 0).toNatClampNeg, S.2.2 9, S.2.2 10, S.2.2 11, S.1 8 1, S.1 8 2⟩
def bOf (S : aSt) : Nat := (S.1 42 7).toNatClampNeg
/-- the class's store of what was worked out -/
def rC (S : aSt) (c : Nat) : Prop := S.1 22 4 = 0 ∧ S.1 25 4 = 1 ∧ S.1 8 4 = nI c ∧ (S.1 0 10 = -1 ∨ ∃ w : Nat, w ≤ c ∧ S.1 0 10 = nI w) ∧ (S.1 0 10 = nI c → Der S (Dof S) (bOf S) (S.2.2 46))
def GR (S : aSt) (c : Nat) : Prop := rT S ∧ rE S ∧ rO S ∧ rD S ∧ rB S ∧ rC S c
theorem rE.D {S : aSt} (hE : rE S) (hO : rO S) : okD (Dof S) ∧ lgC S (Dof S) ∧ lgR S (Dof S) := by
  obtain ⟨e, he, h1, h2, h3, h4⟩ := hE
  obtain ⟨o1, o2, o3, o4, o5⟩ := hO
  have ee : (Dof S).1 = e := by show (S.1 8 0).toNatClampNeg = e; rw [h1, nI_clamp (by omega)]
  refine ⟨⟨by rw [ee]; exact he, by rw [ee]; exact h4, fun i hi => (o1 i hi).2, fun i hi => (o2 i hi).2, o3.2, o4.2⟩, ⟨by rw [ee]; exact h1, rfl, rfl, rfl, rfl, rfl⟩, ⟨by rw [ee]; exact h2, fun i hi => (h3 i (by rw [ee] at hi; exact hi)).symm, fun i hi => (o1 i hi).1.symm, fun i hi => (o2 i hi).1.symm, o3.1.symm, o4.1.symm⟩⟩
theorem rD.d {S : aSt} (h : rD S) : bOf S < 64 ∧ duC S (bOf S) (S.2.2 46) ∧ duR S (bOf S) (S.2.2 46) := by
  obtain ⟨d, hd, h1, h2⟩ := h
  have e : bOf S = d := by unfold bOf; rw [h1, nI_clamp (by omega)]
  rw [e]
  exact ⟨hd, h2, h1, fun p hp hb => rfl⟩
theorem Der.fr {W : aWr} {S T : aSt} {D : Dt} {d : Nat} {V : Nat → Int32} (h : Der S D d V) (f : aFr W S T) (z : (14, 0) ∉ W.1 ∧ 15 ∉ W.2.2 ∧ 16 ∉ W.2.2 ∧ 17 ∉ W.2.2 ∧ 18 ∉ W.2.2 ∧ 19 ∉ W.2.2) (z22 : (22, 0) ∉ W.1 ∧ (22, 1) ∉ W.2.1 ∧ 23 ∉ W.2.2) (z25 : (25, 0) ∉ W.1 ∧ (25, 1) ∉ W.2.1 ∧ 26 ∉ W.2.2) (z28 : (28, 0) ∉ W.2.1 ∧ (28, 1) ∉ W.2.1 ∧ (28, 4) ∉ W.2.1 ∧ (28, 2) ∉ W.1 ∧ (28, 3) ∉ W.1) (z29 : (29, 0) ∉ W.2.1 ∧ (29, 1) ∉ W.2.1 ∧ (29, 4) ∉ W.2.1 ∧ (29, 2) ∉ W.1 ∧ (29, 3) ∉ W.1) (z30 : (30, 0) ∉ W.1 ∧ 33 ∉ W.2.2 ∧ (30, 1) ∉ W.2.1 ∧ (30, 2) ∉ W.2.1) (z34 : (34, 0) ∉ W.1 ∧ 37 ∉ W.2.2 ∧ (34, 1) ∉ W.2.1 ∧ (34, 2) ∉ W.2.1) : Der T D d V := by
  obtain ⟨h1, h2, h3, h4, h5, h6, h7⟩ := h
  exact ⟨rows_fr h1 f z, h2.fr f z22, h3.fr f z25, h4.fr f z28, h5.fr f z29, h6.fr f z30, h7.fr f z34⟩
/-- what a function may not write if the store is to stay -/
def okW (W : aWr) : Bool := W.1.all (fun q => ! [(22, 4), (25, 4), (8, 4), (0, 10), (8, 0), (8, 1), (8, 2), (42, 7), (14, 0), (22, 0), (25, 0), (28, 2), (28, 3), (29, 2), (29, 3), (30, 0), (34, 0)].contains q) && W.2.1.all (fun q => ! [(22, 1), (25, 1), (28, 0), (28, 1), (28, 4), (29, 0), (29, 1), (29, 4), (30, 1), (30, 2), (34, 1), (34, 2)].contains q) && W.2.2.all (fun q => ! [9, 10, 11, 46, 15, 16, 17, 18, 19, 23, 26, 33, 37].contains q)
theorem rC.fr {W : aWr} {S T : aSt} {c : Nat} (h : rC S c) (f : aFr W S T) (z : okW W = true) : rC T c := by
  unfold okW at z
  simp only [Bool.and_eq_true, List.all_eq_true] at z
  obtain ⟨⟨z1, z2⟩, z3⟩ := z
  have y1 : ∀ q : Nat × Nat, [(22, 4), (25, 4), (8, 4), (0, 10), (8, 0), (8, 1), (8, 2), (42, 7), (14, 0), (22, 0), (25, 0), (28, 2), (28, 3), (29, 2), (29, 3), (30, 0), (34, 0)].contains q = true → q ∉ W.1 := fun q hq hw => by
    have := z1 q hw
    rw [hq] at this
    exact absurd this (by decide)
  have y2 : ∀ q : Nat × Nat, [(22, 1), (25, 1), (28, 0), (28, 1), (28, 4), (29, 0), (29, 1), (29, 4), (30, 1), (30, 2), (34, 1), (34, 2)].contains q = true → q ∉ W.2.1 := fun q hq hw => by
    have := z2 q hw
    rw [hq] at this
    exact absurd this (by decide)
  have y3 : ∀ q : Nat, [9, 10, 11, 46, 15, 16, 17, 18, 19, 23, 26, 33, 37].contains q = true → q ∉ W.2.2 := fun q hq hw => by
    have := z3 q hw
    rw [hq] at this
    exact absurd this (by decide)
  obtain ⟨h1, h2, h3, h4, h5⟩ := h
  have eD : Dof T = Dof S := by
    unfold Dof
    rw [f.1 _ _ (y1 (8, 0) rfl), f.1 _ _ (y1 (8, 1) rfl), f.1 _ _ (y1 (8, 2) rfl), f.2.2 _ (y3 9 rfl), f.2.2 _ (y3 10 rfl), f.2.2 _ (y3 11 rfl)]
  have eb : bOf T = bOf S := by unfold bOf; rw [f.1 _ _ (y1 (42, 7) rfl)]
  have eV := f.2.2 _ (y3 46 rfl)
  unfold rC
  rw [f.1 _ _ (y1 (22, 4) rfl), f.1 _ _ (y1 (25, 4) rfl), f.1 _ _ (y1 (8, 4) rfl), f.1 _ _ (y1 (0, 10) rfl), eD, eb, eV]
  refine ⟨h1, h2, h3, h4, fun hc => (h5 hc).fr f ⟨y1 _ rfl, y3 _ rfl, y3 _ rfl, y3 _ rfl, y3 _ rfl, y3 _ rfl⟩ ⟨y1 _ rfl, y2 _ rfl, y3 _ rfl⟩ ⟨y1 _ rfl, y2 _ rfl, y3 _ rfl⟩ ⟨y2 _ rfl, y2 _ rfl, y2 _ rfl, y1 _ rfl, y1 _ rfl⟩ ⟨y2 _ rfl, y2 _ rfl, y2 _ rfl, y1 _ rfl, y1 _ rfl⟩ ⟨y1 _ rfl, y3 _ rfl, y2 _ rfl, y2 _ rfl⟩ ⟨y1 _ rfl, y3 _ rfl, y2 _ rfl, y2 _ rfl⟩⟩
theorem rC.inc {W : aWr} {S T : aSt} {c n : Nat} (h : rC S c) (f : aFr W S T) (z : (22, 4) ∉ W.1 ∧ (25, 4) ∉ W.1 ∧ (0, 10) ∉ W.1) (hn : c < n) (hn2 : n < 2 ^ 31) (h4 : T.1 8 4 = nI n) : rC T n := by
  obtain ⟨h1, h2, h3, h5, h6⟩ := h
  unfold rC
  rw [f.1 _ _ z.1, f.1 _ _ z.2.1, f.1 _ _ z.2.2]
  refine ⟨h1, h2, h4, ?_, fun hc => ?_⟩
  · rcases h5 with h5 | ⟨w, hw, h5⟩
    · exact Or.inl h5
    · exact Or.inr ⟨w, by omega, h5⟩
  · exfalso
    rcases h5 with h5 | ⟨w, hw, h5⟩
    · rw [h5] at hc; exact nI_m1 hn2 hc.symm
    · rw [h5, nI_eq (by omega) hn2] at hc; omega
/-- what a function may not write if all is to stay -/
def okG (W : aWr) : Bool := okW W && W.1.all (fun q => ! [(1, 0), (42, 1), (42, 5), (8, 3), (42, 10), (42, 11), (42, 12), (38, 0), (42, 14)].contains q) && W.2.2.all (fun q => ! [2, 43, 45, 47, 48, 12, 13, 39, 49].contains q)
theorem GR.fr {W : aWr} {S T : aSt} {c : Nat} (h : GR S c) (f : aFr W S T) (z : okG W = true) : GR T c := by
  unfold okG at z
  simp only [Bool.and_eq_true] at z
  obtain ⟨⟨zW, z1⟩, z3⟩ := z
  have zW' := zW
  unfold okW at zW'
  simp only [Bool.and_eq_true] at zW'
  obtain ⟨⟨w1, w2⟩, w3⟩ := zW'
  rw [List.all_eq_true] at z1 z3 w1 w2 w3
  have y1 : ∀ q : Nat × Nat, [(1, 0), (42, 1), (42, 5), (8, 3), (42, 10), (42, 11), (42, 12), (38, 0), (42, 14)].contains q = true → q ∉ W.1 := fun q hq hw => by
    have := z1 q hw
    rw [hq] at this
    exact absurd this (by decide)
  have y3 : ∀ q : Nat, [2, 43, 45, 47, 48, 12, 13, 39, 49].contains q = true → q ∉ W.2.2 := fun q hq hw => by
    have := z3 q hw
    rw [hq] at this
    exact absurd this (by decide)
  have x1 : ∀ q : Nat × Nat, [(22, 4), (25, 4), (8, 4), (0, 10), (8, 0), (8, 1), (8, 2), (42, 7), (14, 0), (22, 0), (25, 0), (28, 2), (28, 3), (29, 2), (29, 3), (30, 0), (34, 0)].contains q = true → q ∉ W.1 := fun q hq hw => by
    have := w1 q hw
    rw [hq] at this
    exact absurd this (by decide)
  have x3 : ∀ q : Nat, [9, 10, 11, 46, 15, 16, 17, 18, 19, 23, 26, 33, 37].contains q = true → q ∉ W.2.2 := fun q hq hw => by
    have := w3 q hw
    rw [hq] at this
    exact absurd this (by decide)
  obtain ⟨hT, hE, hO, hD, hB, hC⟩ := h
  exact ⟨hT.fr f ⟨y1 _ rfl, y1 _ rfl, y3 _ rfl, y3 _ rfl⟩, hE.fr f ⟨x1 _ rfl, y1 _ rfl, x3 _ rfl, y3 _ rfl⟩, hO.fr f ⟨x3 _ rfl, y3 _ rfl, x3 _ rfl, y3 _ rfl, x1 _ rfl, y1 _ rfl, x1 _ rfl, y1 _ rfl, y1 _ rfl, y1 _ rfl⟩, hD.fr f ⟨x1 _ rfl, y3 _ rfl, y3 _ rfl, x3 _ rfl⟩, hB.fr f ⟨y1 _ rfl, y1 _ rfl, y3 _ rfl, y3 _ rfl⟩, hC.fr f zW⟩
/-- the class works all out -/
theorem c_workOut {N c : Nat} {S : aSt} (hN : 3000 ≤ N) (hc : c < 2 ^ 31) (h : GR S c) : ∃ T, X10_workOut_0 N S = some T ∧ GR T c ∧ Der T (Dof T) (bOf T) (T.2.2 46) := by
  obtain ⟨hT, hE, hO, hD, hB, hC⟩ := h
  obtain ⟨ok, lc, lr⟩ := hE.D hO
  obtain ⟨hd, dc, dr⟩ := hD.d
  have hC' := hC
  obtain ⟨c1, c2, c3, c4, c5⟩ := hC
  by_cases e : S.1 0 10 = S.1 8 4
  · refine ⟨S, ?_, ⟨hT, hE, hO, hD, hB, hC'⟩, c5 (by rw [e, c3])⟩
    unfold X10_workOut_0
    rw [if_pos e]
  · obtain ⟨T1, a1, a2, a3⟩ := c_slips (N := N) hN ok lc
    have f1 := F_X8_build_14 _ _ a1
    have lc1 := lc.fr f1 (by decide)
    obtain ⟨T2, b1, b2⟩ := c_singles22 (q := qA) hN ok a2 lc1 (dc.fr f1 (by decide)) (Or.inl ⟨by rw [f1.1 22 4 (by decide)]; exact c1, fun _ => rfl⟩)
    have f2 := F_X7_build_22 _ _ b1
    have s2 := rows_fr a2 f2 (by decide)
    have lc2 := lc1.fr f2 (by decide)
    obtain ⟨T3, d1, d2⟩ := c_singles25 (q := nar (Dof S) (bOf S) (S.2.2 46)) hN ok s2 lc2 ((dc.fr f1 (by decide)).fr f2 (by decide)) (Or.inr ⟨by rw [f2.1 25 4 (by decide), f1.1 25 4 (by decide)]; exact c2, fun _ => rfl⟩)
    have f3 := F_X7_build_25 _ _ d1
    have s3 := rows_fr s2 f3 (by decide)
    have lc3 := lc2.fr f3 (by decide)
    have ch3 := (a3.fr f2 (by decide)).fr f3 (by decide)
    obtain ⟨T4, e1, e2⟩ := c_pairs28 (w := -oAll (Dof S)) hN ok s3 ch3
    have f4 := F_X5_find_28 _ _ _ e1
    obtain ⟨T5, g1, g2⟩ := c_pairs29 (w := 0) hN ok (rows_fr s3 f4 (by decide)) (ch3.fr f4 (by decide))
    have f5 := F_X5_find_29 _ _ _ g1
    have s5 := rows_fr (rows_fr s3 f4 (by decide)) f5 (by decide)
    have lc5 := (lc3.fr f4 (by decide)).fr f5 (by decide)
    obtain ⟨T6, i1, i2⟩ := c_look30 (q := qA) hN ok s5 lc5 (((b2.fr f3 (by decide)).fr f4 (by decide)).fr f5 (by decide))
    have f6 := F_X3_build_30 _ _ i1
    obtain ⟨T7, j1, j2⟩ := c_look34 (q := nar (Dof S) (bOf S) (S.2.2 46)) hN ok (rows_fr s5 f6 (by decide)) (lc5.fr f6 (by decide)) (((d2.fr f4 (by decide)).fr f5 (by decide)).fr f6 (by decide))
    have f7 := F_X3_build_34 _ _ j1
    have run : X10_workOut_0 N S = some (aI T7 0 10 (T7.1 8 4)) := by
      unfold X10_workOut_0
      rw [if_neg e, a1]
      simp only [Option.bind_some]
      rw [b1]
      simp only [Option.bind_some]
      rw [d1]
      simp only [Option.bind_some]
      rw [X2_outOf_eq _ lc3.1 ok.1 (by omega), lc3.2.1]
      simp only [Option.bind_some]
      rw [show outS (Dof S).2.1 (-1) (Dof S).1 = oAll (Dof S) from rfl, e1]
      simp only [Option.bind_some]
      rw [g1]
      simp only [Option.bind_some]
      rw [i1]
      simp only [Option.bind_some]
      rw [j1]
      simp only [Option.bind_some]
    have fw := F_X10_workOut_0 _ _ run
    generalize hT8 : aI T7 0 10 (T7.1 8 4) = T8 at run fw
    have f8 : aFr ([(0, 10)], [], []) T7 T8 := by rw [← hT8]; exact aFr.rf.I 0 10 _ (by decide)
    have eD : Dof T8 = Dof S := by
      unfold Dof
      rw [fw.1 8 0 (by decide), fw.1 8 1 (by decide), fw.1 8 2 (by decide), fw.2.2 9 (by decide), fw.2.2 10 (by decide), fw.2.2 11 (by decide)]
    have eb : bOf T8 = bOf S := by unfold bOf; rw [fw.1 42 7 (by decide)]
    have eV := fw.2.2 46 (by decide)
    have der : Der T8 (Dof T8) (bOf T8) (T8.2.2 46) := by
      rw [eD, eb, eV]
      refine ⟨?_, ?_, ?_, ?_, ?_, ?_, ?_⟩
      · exact rows_fr (rows_fr (rows_fr s5 f6 (by decide)) f7 (by decide)) f8 (by decide)
      · exact (((((b2.fr f3 (by decide)).fr f4 (by decide)).fr f5 (by decide)).fr f6 (by decide)).fr f7 (by decide)).fr f8 (by decide)
      · exact ((((d2.fr f4 (by decide)).fr f5 (by decide)).fr f6 (by decide)).fr f7 (by decide)).fr f8 (by decide)
      · exact (((e2.fr f5 (by decide)).fr f6 (by decide)).fr f7 (by decide)).fr f8 (by decide)
      · exact ((g2.fr f6 (by decide)).fr f7 (by decide)).fr f8 (by decide)
      · exact (i2.fr f7 (by decide)).fr f8 (by decide)
      · exact j2.fr f8 (by decide)
    have e84 : T8.1 8 4 = nI c := by rw [fw.1 8 4 (by decide), c3]
    have e010 : T8.1 0 10 = nI c := by
      rw [← hT8, gI, if_pos ⟨rfl, rfl⟩, ← e84, f8.1 8 4 (by decide)]
    refine ⟨T8, run, ⟨hT.fr fw (by decide), hE.fr fw (by decide), hO.fr fw (by decide), hD.fr fw (by decide), hB.fr fw (by decide), ?_⟩, der⟩
    exact ⟨by rw [fw.1 22 4 (by decide)]; exact c1, by rw [fw.1 25 4 (by decide)]; exact c2, e84, Or.inr ⟨c, Nat.le_refl _, e010⟩, fun _ => der⟩
