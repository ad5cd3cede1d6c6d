/-! THE START: from the law's entry into the abstract machine -/
def aTm (i : Nat) : Term := .string "NinePence$Text" (aSix.getD i 0)
theorem aFlat {args : Array Value} {s : State} (h : (Jvm.Cond.and given_1 narrow_1).before args s = true) {c : Cond} (hc : c ∈ flatC (Jvm.Cond.and given_1 narrow_1)) : c.before args s = true := flat_of_before _ h c hc
set_option maxHeartbeats 4000000 in
set_option maxRecDepth 100000 in
theorem aFlat_str : ∀ i, i < 9 → Cond.exactly (aTm i) "java/lang/String" ∈ flatC (Jvm.Cond.and given_1 narrow_1) ∧ Cond.eq (.field (aTm i) "java/lang/String" "coder" "B") (.int 0) ∈ flatC (Jvm.Cond.and given_1 narrow_1) ∧ Cond.arrayOf (.field (aTm i) "java/lang/String" "value" "[B") .byte ∈ flatC (Jvm.Cond.and given_1 narrow_1) ∧
    Cond.eq (.length (.field (aTm i) "java/lang/String" "value" "[B")) (.int (Int32.ofNat (aLen.getD i 0))) ∈ flatC (Jvm.Cond.and given_1 narrow_1) := by decide +kernel
set_option maxHeartbeats 4000000 in
set_option maxRecDepth 100000 in
theorem aFlat_el : ∀ i, i < 9 → ∀ j, j < aLen.getD i 0 → Cond.eq (.elem (.field (aTm i) "java/lang/String" "value" "[B") (.int (Int32.ofNat j))) (.int ((aByt.getD i []).getD j 0)) ∈ flatC (Jvm.Cond.and given_1 narrow_1) := by decide +kernel
set_option maxHeartbeats 4000000 in
set_option maxRecDepth 100000 in
theorem aFlat_ne : ∀ i, i < 9 → ∀ j, j < 9 → i ≠ j → Cond.not (Cond.eq (aTm i) (aTm j)) ∈ flatC (Jvm.Cond.and given_1 narrow_1) ∨ Cond.not (Cond.eq (aTm j) (aTm i)) ∈ flatC (Jvm.Cond.and given_1 narrow_1) := by decide +kernel
set_option maxHeartbeats 4000000 in
set_option maxRecDepth 100000 in
theorem aFlat_tens : (∀ j, j < 7 → Cond.eq (.elem (.static "NinePence$Figures" "TENS" "[I") (.int (Int32.ofNat j))) (.int (aTENS.getD j 0)) ∈ flatC (Jvm.Cond.and given_1 narrow_1)) ∧ Cond.arrayOf (.static "NinePence$Figures" "TENS" "[I") .int ∈ flatC (Jvm.Cond.and given_1 narrow_1) ∧
    Cond.eq (.length (.static "NinePence$Figures" "TENS" "[I")) (.int 7) ∈ flatC (Jvm.Cond.and given_1 narrow_1) ∧ Cond.eq (.static "java/lang/String" "COMPACT_STRINGS" "Z") (.int 1) ∈ flatC (Jvm.Cond.and given_1 narrow_1) ∧ Cond.isRef (.static "jdk/internal/util/Preconditions" "SIOOBE_FORMATTER" "Ljava/util/function/BiFunction;") ∈ flatC (Jvm.Cond.and given_1 narrow_1) := by decide +kernel
set_option maxHeartbeats 4000000 in
set_option maxRecDepth 100000 in
theorem aTbl_start : (∀ i, i < 9 → Cond.stringRef "NinePence$Text" (aSix.getD i 0) (aStx.getD i "") ∈ lw_tbl) ∧ Cond.laysStatic "NinePence$Figures" "TENS" "[I" ∈ lw_tbl ∧ Cond.laysStatic "java/lang/String" "COMPACT_STRINGS" "Z" ∈ lw_tbl ∧ Cond.laysStatic "jdk/internal/util/Preconditions" "SIOOBE_FORMATTER" "Ljava/util/function/BiFunction;" ∈ lw_tbl ∧
    Cond.initialized "NinePence$Figures" ∈ lw_tbl ∧ Cond.initialized "java/lang/String" ∈ lw_tbl ∧ Cond.initialized "jdk/internal/util/Preconditions" ∈ lw_tbl ∧ Cond.methodLinkNest "NinePence" 11 ⟨"NinePence$Text", "<init>", "()V"⟩ "NinePence" ∈ lw_tbl ∧ Cond.arrayClass .int ∈ lw_tbl ∧ Cond.arrayClass .boolean ∈ lw_tbl ∧
    (∀ q ∈ vwCl, Cond.instantiable q.1 q.2.2 ∈ lw_tbl) := by decide +kernel
theorem aArrC {args : Array Value} {s : State} {ty : FieldType} (hb : ∀ C, ty ≠ .object C) (h : (Cond.arrayClass ty).before args s = true) : ∃ cA : ClassId, ArrOfT s cA ty ∧ va_RA s cA ty := by
  obtain ⟨cA, kA, comp, h1, h2, h3⟩ := Cond.arrayClass_spec h
  refine ⟨cA, fun n z => ⟨fun k h => (by cases h), kA, h2, comp, h3⟩, ?_⟩
  unfold va_RA
  cases ty <;> first | exact h1 | exact absurd rfl (hb _)
set_option maxHeartbeats 4000000 in
set_option maxRecDepth 100000 in
/-- all that the Statement gives of the start, as the abstract machine wants it -/
theorem aStart {s : State} {args : Array Value} {b : Nat} (hts : ∀ w ∈ lw_tbl, w.before args s = true) (hgv : (Jvm.Cond.and given_1 narrow_1).before args s = true) :
    ∃ g : aWg, g.2.2.1 = s.heap.size ∧ g.2.2.2 0 = b ∧ va_K g.1 vwCl (aTy g) s ∧ aRo g s s.heap := by
  obtain ⟨t1, t2, t3, t4, t5, t6, t7, t8, t9, t10, t11⟩ := aTbl_start
  obtain ⟨f1, f2, f3, f4, f5⟩ := aFlat_tens
  have hA : ∀ a : Nat, a < s.heap.size → ¬ (fun q : Nat => s.heap.size ≤ q) a := fun a h => Nat.not_le.mpr h
  have hk : ∀ c : Nat, ∃ (cC : ClassId) (iS : Nat → Nat), ∀ q : vw_C, vwCl[c]? = some q → u_Kn s q.1 q.2.1 q.2.2 cC iS := by
    intro c
    cases hq : vwCl[c]? with
    | none => exact ⟨default, fun _ => 0, fun q h => by cases h⟩
    | some q =>
      have hm := List.mem_of_getElem? hq
      obtain ⟨cC, iS, h⟩ := u_known (C := q.1) (T := q.2.1) (N := q.2.2) (n := q.2.2) hts (fun w hw => (List.mem_filter.mp ((aCls q hm).1 w hw)).1) (hts _ (t11 q hm))
      exact ⟨cC, iS, fun q2 h2 => by cases h2; exact h⟩
  obtain ⟨dC, hk⟩ := Classical.axiomOfChoice hk
  obtain ⟨dI, hk⟩ := Classical.axiomOfChoice hk
  obtain ⟨cI, hI1, hI2⟩ := aArrC (fun C h => by cases h) (hts _ t9)
  obtain ⟨cZ, hZ1, hZ2⟩ := aArrC (fun C h => by cases h) (hts _ t10)
  obtain ⟨tt, ht1, ht2⟩ := va_Tof (A := fun q : Nat => s.heap.size ≤ q) (N := 7) (f := fun j => .int (aTENS.getD j 0)) (by decide) (aFlat hgv f2) (va_eqt (aFlat hgv f3)) (fun j hj => va_eqt (aFlat hgv (f1 j hj))) hA
  obtain ⟨adK, adV, hs1, hs2⟩ := vk_Sof (args := args) (s := s) (N := 9) (tm := aTm) (len := aLen) (byt := aByt) (A := fun q : Nat => s.heap.size ≤ q) (by decide) (fun i hi => aFlat hgv (aFlat_str i hi).1) (fun i hi => aFlat hgv (aFlat_str i hi).2.1) (fun i hi => aFlat hgv (aFlat_str i hi).2.2.1) (fun i hi => aFlat hgv (aFlat_str i hi).2.2.2)
    (fun i hi j hj => aFlat hgv (aFlat_el i hi j hj)) (fun i j hi hj hij => (aFlat_ne i hi j hj hij).imp (fun h => aFlat hgv h) (fun h => aFlat hgv h)) hA
  obtain ⟨vS, hv1, hv2⟩ := Cond.isRef_spec (aFlat hgv f5)
  obtain ⟨z, hz⟩ : ∃ z : Nat, vS = if z = 0 then .null else .ref (z - 1) := by
    cases vS <;> first | (cases hv2; done) | skip
    · exact ⟨0, rfl⟩
    · rename_i a
      exact ⟨a + 1, by simp⟩
  refine ⟨((dC, dI), fun k => if k = 0 then cI else cZ, s.heap.size, fun k => if k = 0 then b else if k = 1 then tt else if k < 11 then adK (k - 2) else if k < 20 then adV (k - 11) else z), rfl, rfl, ⟨fun c q hq => hk c q hq, fun k q hq => ?_⟩, ?_⟩
  · match k, hq with
    | 0, hq => cases hq; exact ⟨hI1, hI2⟩
    | 1, hq => cases hq; exact ⟨hZ1, hZ2⟩
    | k + 2, hq => simp [aTy] at hq
  · have eK : ∀ i, i < 9 → (if 2 + i = 0 then b else if 2 + i = 1 then tt else if 2 + i < 11 then adK (2 + i - 2) else if 2 + i < 20 then adV (2 + i - 11) else z) = adK i := fun i hi => by
      rw [if_neg (by omega), if_neg (by omega), if_pos (by omega), Nat.add_sub_cancel_left]
    have eV : ∀ i, i < 9 → (if 11 + i = 0 then b else if 11 + i = 1 then tt else if 11 + i < 11 then adK (11 + i - 2) else if 11 + i < 20 then adV (11 + i - 11) else z) = adV i := fun i hi => by
      rw [if_neg (by omega), if_neg (by omega), if_neg (by omega), if_pos (by omega), Nat.add_sub_cancel_left]
    refine ⟨ht2, va_Zof (hts _ t2) (hts _ t5) ht1 hA, va_Zof (hts _ t3) (hts _ t6) (va_eqi (aFlat hgv f4)) hA, ⟨fun i hi => ?_, fun i j hi hj e => ?_⟩, fun i hi => ?_, va_Nw.of rfl (hts _ t8), ?_⟩
    · have h := hs1.1 i hi
      dsimp only
      rw [eK i hi, eV i hi]
      exact h
    · dsimp only at e
      rw [eK i hi, eK j hj] at e
      exact hs1.2 i j hi hj e
    · dsimp only
      rw [eK i hi]
      exact vk_R.of (hts _ (t1 i hi)) (hs2 i hi)
    · have hv3 : (Term.static "jdk/internal/util/Preconditions" "SIOOBE_FORMATTER" "Ljava/util/function/BiFunction;").eval args s none [] s = some (if z = 0 then .null else .ref (z - 1)) := by rw [hv1, hz]
      exact va_Zof (hts _ t4) (hts _ t7) hv3 hA
