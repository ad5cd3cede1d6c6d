/-! THE ABSTRACT MACHINE: a configuration is pc, locals, operand stack, layout, contents. A reference is a place: below 1000 a cell that the law's run makes (in the order of making), from 1000 on a cell that was there before. -/
abbrev aSt : Type := (Nat → Nat → Int32) × (Nat → Nat → Int64) × (Nat → Nat → Int32)
/-- a cell's shape: an array (kind of elements, length), or an object (its class's place, its fields: (0,0) null, (0,r+1) the place r, (1,_) an int, (2,_) a long) -/
abbrev aSh : Type := (Nat × Nat) ⊕ (Nat × List (Nat × Nat))
abbrev aLay : Type := List aSh
abbrev aCf : Type := Nat × List (Nat × Value) × List Value × aLay × aSt
/-- where all lies: slots of classes, array classes by kind, the address of place 0, the addresses of the old cells -/
abbrev aWg : Type := va_G × (Nat → ClassId) × Nat × (Nat → Nat)
def aI (S : aSt) (k j : Nat) (v : Int32) : aSt := (fun a => if a = k then (fun b => if b = j then v else S.1 k b) else S.1 a, S.2.1, S.2.2)
def aL (S : aSt) (k j : Nat) (v : Int64) : aSt := (S.1, fun a => if a = k then (fun b => if b = j then v else S.2.1 k b) else S.2.1 a, S.2.2)
def aA (S : aSt) (k : Nat) (f : Nat → Int32) : aSt := (S.1, S.2.1, fun a => if a = k then f else S.2.2 a)
def aClr (S : aSt) (k : Nat) : aSt := (fun a => if a = k then (fun _ => 0) else S.1 a, fun a => if a = k then (fun _ => 0) else S.2.1 a, fun a => if a = k then (fun _ => 0) else S.2.2 a)
def aFv (S : aSt) (k j : Nat) (f : Nat × Nat) : Value := match f.1, f.2 with
  | 0, 0 => .null
  | 0, r + 1 => .ref r
  | 1, _ => .int (S.1 k j)
  | _, _ => .long (S.2.1 k j)
def aCv (g : aWg) (v : Value) : Value := match v with
  | .ref k => .ref (if k < 1000 then g.2.2.1 + k else g.2.2.2 (k - 1000))
  | .retAddr _ => if g.2.2.2 20 = 0 then .null else .ref (g.2.2.2 20 - 1)
  | v => v
def aCq (g : aWg) (q : Nat × Value) : Nat × Value := (q.1, aCv g q.2)
def aCell (g : aWg) (S : aSt) (k : Nat) (o : aSh) : va_E := match o with
  | .inl a => .inl (g.2.1 a.1, a.2, .inl (S.2.2 k))
  | .inr a => .inr (a.1, a.2.mapIdx (fun j f => aCv g (aFv S k j f)))
def aWs (g : aWg) (lay : aLay) (S : aSt) : va_W := lay.mapIdx (fun k o => (g.2.2.1 + k, aCell g S k o))
def aAg (g : aWg) : Nat → Prop := fun q => g.2.2.1 ≤ q
def aTy (g : aWg) : List (ClassId × FieldType) := [(g.2.1 0, .int), (g.2.1 1, .boolean)]
theorem aCv_cat (g : aWg) (v : Value) : (aCv g v).category = v.category := by
  cases v <;> first | rfl | (unfold aCv; dsimp only; split <;> rfl)
theorem aWs_get (g : aWg) (lay : aLay) (S : aSt) (k : Nat) : (aWs g lay S)[k]? = lay[k]?.map (fun o => (g.2.2.1 + k, aCell g S k o)) := by
  simp [aWs, List.getElem?_mapIdx]
theorem aWs_at {g : aWg} {lay : aLay} {S : aSt} {k : Nat} {o : aSh} (h : lay[k]? = some o) : (aWs g lay S)[k]? = some (g.2.2.1 + k, aCell g S k o) := by
  rw [aWs_get, h]; rfl
theorem aWs_len (g : aWg) (lay : aLay) (S : aSt) : (aWs g lay S).length = lay.length := by simp [aWs]
theorem aWs_set {g : aWg} {lay : aLay} {S S' : aSt} {k : Nat} {o : aSh} (hk : k < lay.length) (h : ∀ a o', a ≠ k → aCell g S a o' = aCell g S' a o') : (aWs g lay S).set k (g.2.2.1 + k, aCell g S' k o) = aWs g (lay.set k o) S' := by
  apply List.ext_getElem?
  intro i
  rw [aWs_get]
  by_cases hi : i = k
  · subst hi
    rw [List.getElem?_set_self (by rw [aWs_len]; exact hk), List.getElem?_set_self hk]; rfl
  · rw [List.getElem?_set_ne (Ne.symm hi), List.getElem?_set_ne (Ne.symm hi), aWs_get]
    cases lay[i]? with
    | none => rfl
    | some o' => simp only [Option.map_some, h i o' hi]
theorem aLay_set {lay : aLay} {k : Nat} {o : aSh} (h : lay[k]? = some o) : lay.set k o = lay := by
  apply List.ext_getElem?
  intro i
  by_cases hi : i = k
  · subst hi
    rw [List.getElem?_set_self (List.getElem?_eq_some_iff.mp h).1, h]
  · rw [List.getElem?_set_ne (Ne.symm hi)]
theorem aLay_lt {lay : aLay} {k : Nat} {o : aSh} (h : lay[k]? = some o) : k < lay.length := (List.getElem?_eq_some_iff.mp h).1
theorem aD (g : aWg) (lay : aLay) (S : aSt) : va_D (aAg g) (aWs g lay S) := by
  refine ⟨fun i j p q hi hj hpq => ?_, fun k q hk => ?_⟩
  · rw [aWs_get] at hi hj
    cases hli : lay[i]? with
    | none => rw [hli] at hi; cases hi
    | some oi =>
      cases hlj : lay[j]? with
      | none => rw [hlj] at hj; cases hj
      | some oj =>
        rw [hli] at hi; rw [hlj] at hj
        cases hi; cases hj
        have : g.2.2.1 + i = g.2.2.1 + j := hpq
        omega
  · rw [aWs_get] at hk
    cases hl : lay[k]? with
    | none => rw [hl] at hk; cases hk
    | some o =>
      rw [hl] at hk
      cases hk
      exact Nat.le_add_right _ _
/-! the old cells: the table of tens, nine words -/
def aTENS : List Int32 := [1, 10, 100, 1000, 10000, 100000, 1000000]

def aLen : List Nat := [4, 5, 4, 4, 6, 5, 6, 4, 4]
def aByt : List (List Int32) := [[108, 101, 102, 116], [114, 105, 103, 104, 116], [104, 97, 110, 100], [114, 101, 97, 100], [109, 105, 115, 115, 101, 100], [99, 97, 114, 114, 121], [115, 101, 99, 111, 110, 100], [112, 97, 103, 101], [102, 114, 101, 101]]
def aSix : List Nat := [89, 95, 97, 99, 101, 103, 105, 107, 109]
def aStx : List String := ["left", "right", "hand", "read", "missed", "carry", "second", "page", "free"]
/-- the words that hold wherever the tables are as warm -/
def aBase : List Cond := lw_tbl.filter goodWord
def aRo (g : aWg) (U : State) (H : Heap) : Prop :=
  va_T .int (g.2.2.2 1) 7 (fun j => .int (aTENS.getD j 0)) (aAg g) U H ∧ va_Z "NinePence$Figures" "TENS" "[I" (.ref (g.2.2.2 1)) (aAg g) U H ∧ va_Z "java/lang/String" "COMPACT_STRINGS" "Z" (.int 1) (aAg g) U H ∧
  vk_S 9 aLen aByt (fun i => g.2.2.2 (2 + i)) (fun i => g.2.2.2 (11 + i)) (aAg g) U H ∧ (∀ i : Nat, i < 9 → vk_R "NinePence$Text" (aSix.getD i 0) (aStx.getD i "") (g.2.2.2 (2 + i)) U) ∧ va_Nw (.methodLinkNest "NinePence" 11 ⟨"NinePence$Text", "<init>", "()V"⟩ "NinePence") U ∧ va_Z "jdk/internal/util/Preconditions" "SIOOBE_FORMATTER" "Ljava/util/function/BiFunction;" (aCv g (.retAddr 0)) (aAg g) U H
theorem aRo.on {g : aWg} {s U : State} {H : Heap} {locs : List Loc} (h : aRo g s s.heap) (hS : va_S (aAg g) s.heap H locs) (hW : s.WarmedH U.vm) : aRo g U H := by
  obtain ⟨h1, h2, h3, h4, h5, h6, h7⟩ := h
  exact ⟨(h1.kept hS.2.1).moved hW.alike, (h2.kept hS.2.1).moved hW.alike, (h3.kept hS.2.1).moved hW.alike, (h4.kept hS.2.1).moved hW.alike, fun i hi => (h5 i hi).warm hW, h6.warmM hW, (h7.kept hS.2.1).moved hW.alike⟩
theorem aRo.same {g : aWg} {u U : State} {H : Heap} (h : aRo g u H) (hv : U.vm = u.vm) : aRo g U H := by
  obtain ⟨h1, h2, h3, h4, h5, h6, h7⟩ := h
  have hA : u.vm.Alike U.vm := by rw [hv]; exact Vm.Alike.refl _
  exact ⟨h1.moved hA, h2.moved hA, h3.moved hA, h4.moved hA, fun i hi => (h5 i hi).same hv, h6.same rfl hv.symm, h7.moved hA⟩
/-! a method: its class, code, how many locals, whether it is a constructor, its result's type, its room; its tables: instructions; fields (pool number, place of the word, class, field, type); constants; statics (pool number, place of the word, which) -/
abbrev aTab : Type := List (Nat × Instr × Nat) × List (Nat × Nat × Nat × Nat × FieldType) × List (Nat × Nat × Value) × List (Nat × Nat × Nat)
abbrev aM : Type := String × ByteArray × Nat × Bool × Option FieldType × Room × aTab
def aLk {α : Type} : List (Nat × α) → Nat → Option α
  | [], _ => none
  | q :: l, i => if i = q.1 then some q.2 else aLk l i
theorem aLk_mem {α : Type} : ∀ {l : List (Nat × α)} {i : Nat} {a : α}, aLk l i = some a → (i, a) ∈ l
  | [], _, _, h => by cases h
  | q :: l, i, a, h => by
    unfold aLk at h
    split at h
    · rename_i e
      cases h
      subst e
      exact List.mem_cons_self
    · exact List.mem_cons_of_mem _ (aLk_mem h)
def aStr (v : Nat) : Value := .ref (1002 + v)
def aOKd (M : aM) : Bool := M.2.2.2.2.2.2.1.all (fun q => decide (decode M.2.1 q.1 = .ok (q.2.1, q.2.2)))
/-- the fields of the class at a place; 100 is String -/
def aCl (ci : Nat) : Option vw_C := vwCl[ci]?
def aOKf (M : aM) : Bool := M.2.2.2.2.2.2.2.1.all (fun q =>
  (decide (q.2.2.1 = 100) && ((decide (q.2.2.2.1 = 0) && decide (lw_tbl[q.2.1]? = some (.fieldLink M.1 q.1 "java/lang/String" "coder" "B"))) || (decide (q.2.2.2.1 = 1) && decide (lw_tbl[q.2.1]? = some (.fieldLink M.1 q.1 "java/lang/String" "value" "[B"))))) ||
  (match vwCl[q.2.2.1]? with
    | some r => decide (q.2.2.2.1 < r.2.2) && decide (lw_tbl[q.2.1]? = some (.fieldLink M.1 q.1 (r.2.1 q.2.2.2.1).1 (r.2.1 q.2.2.2.1).2.1 (r.2.1 q.2.2.2.1).2.2.1)) && decide (parseFieldDescriptor (r.2.1 q.2.2.2.1).2.2.1 = some q.2.2.2.2)
    | none => false))
def aOKc (M : aM) : Bool := M.2.2.2.2.2.2.2.2.1.all (fun q => match q.2.2 with
  | .int v => decide (lw_tbl[q.2.1]? = some (.constant M.1 q.1 v))
  | .long v => decide (lw_tbl[q.2.1]? = some (.constantLong M.1 q.1 v))
  | .ref v => decide (1002 ≤ v) && decide (v - 1002 < 9) && decide (M.1 = "NinePence$Text") && decide (q.1 = aSix.getD (v - 1002) 0)
  | _ => false)
def aOKs (M : aM) : Bool := M.2.2.2.2.2.2.2.2.2.all (fun q => (decide (q.2.2 = 0) && decide (lw_tbl[q.2.1]? = some (.fieldLink M.1 q.1 "NinePence$Figures" "TENS" "[I"))) || (decide (q.2.2 = 1) && decide (lw_tbl[q.2.1]? = some (.fieldLink M.1 q.1 "java/lang/String" "COMPACT_STRINGS" "Z"))) || (decide (q.2.2 = 2) && decide (lw_tbl[q.2.1]? = some (.fieldLink M.1 q.1 "jdk/internal/util/Preconditions" "SIOOBE_FORMATTER" "Ljava/util/function/BiFunction;"))))
def aOK (M : aM) : Prop := (aOKd M && aOKf M && aOKc M && aOKs M) = true
theorem aOK.d {M : aM} (h : aOK M) : ∀ q ∈ M.2.2.2.2.2.2.1, decode M.2.1 q.1 = .ok (q.2.1, q.2.2) := by
  unfold aOK at h
  simp only [Bool.and_eq_true] at h
  intro q hq
  exact of_decide_eq_true (List.all_eq_true.mp h.1.1.1 q hq)
theorem aOK.f {M : aM} (h : aOK M) : ∀ q ∈ M.2.2.2.2.2.2.2.1,
    (q.2.2.1 = 100 ∧ ((q.2.2.2.1 = 0 ∧ lw_tbl[q.2.1]? = some (.fieldLink M.1 q.1 "java/lang/String" "coder" "B")) ∨ (q.2.2.2.1 = 1 ∧ lw_tbl[q.2.1]? = some (.fieldLink M.1 q.1 "java/lang/String" "value" "[B")))) ∨
    (∃ r, vwCl[q.2.2.1]? = some r ∧ q.2.2.2.1 < r.2.2 ∧ lw_tbl[q.2.1]? = some (.fieldLink M.1 q.1 (r.2.1 q.2.2.2.1).1 (r.2.1 q.2.2.2.1).2.1 (r.2.1 q.2.2.2.1).2.2.1) ∧ parseFieldDescriptor (r.2.1 q.2.2.2.1).2.2.1 = some q.2.2.2.2) := by
  unfold aOK at h
  simp only [Bool.and_eq_true] at h
  intro q hq
  have h1 := List.all_eq_true.mp h.1.1.2 q hq
  rcases (Bool.or_eq_true _ _).mp h1 with h2 | h2
  · left
    simp only [Bool.and_eq_true, Bool.or_eq_true, decide_eq_true_eq] at h2
    exact h2
  · right
    split at h2
    · rename_i r hr
      simp only [Bool.and_eq_true, decide_eq_true_eq] at h2
      exact ⟨r, hr, h2.1.1, h2.1.2, h2.2⟩
    · cases h2
theorem aOK.c {M : aM} (h : aOK M) : ∀ q ∈ M.2.2.2.2.2.2.2.2.1,
    (∃ v, q.2.2 = .int v ∧ lw_tbl[q.2.1]? = some (.constant M.1 q.1 v)) ∨ (∃ v, q.2.2 = .long v ∧ lw_tbl[q.2.1]? = some (.constantLong M.1 q.1 v)) ∨ (∃ v : Nat, v < 9 ∧ q.2.2 = .ref (1002 + v) ∧ M.1 = "NinePence$Text" ∧ q.1 = aSix.getD v 0) := by
  unfold aOK at h
  simp only [Bool.and_eq_true] at h
  intro q hq
  have h1 := List.all_eq_true.mp h.1.2 q hq
  split at h1
  · rename_i v hv
    exact Or.inl ⟨v, hv, of_decide_eq_true h1⟩
  · rename_i v hv
    exact Or.inr (Or.inl ⟨v, hv, of_decide_eq_true h1⟩)
  · rename_i v hv
    simp only [Bool.and_eq_true, decide_eq_true_eq] at h1
    obtain ⟨⟨⟨a1, a2⟩, a3⟩, a4⟩ := h1
    exact Or.inr (Or.inr ⟨v - 1002, a2, by rw [hv, Nat.add_sub_cancel' a1], a3, a4⟩)
  · cases h1
theorem aOK.s {M : aM} (h : aOK M) : ∀ q ∈ M.2.2.2.2.2.2.2.2.2, (q.2.2 = 0 ∧ lw_tbl[q.2.1]? = some (.fieldLink M.1 q.1 "NinePence$Figures" "TENS" "[I")) ∨ (q.2.2 = 1 ∧ lw_tbl[q.2.1]? = some (.fieldLink M.1 q.1 "java/lang/String" "COMPACT_STRINGS" "Z")) ∨ (q.2.2 = 2 ∧ lw_tbl[q.2.1]? = some (.fieldLink M.1 q.1 "jdk/internal/util/Preconditions" "SIOOBE_FORMATTER" "Ljava/util/function/BiFunction;")) := by
  unfold aOK at h
  simp only [Bool.and_eq_true] at h
  intro q hq
  have h1 := List.all_eq_true.mp h.2 q hq
  simp only [Bool.and_eq_true, Bool.or_eq_true, decide_eq_true_eq] at h1
  rcases h1 with (h1 | h1) | h1
  · exact Or.inl h1
  · exact Or.inr (Or.inl h1)
  · exact Or.inr (Or.inr h1)
/-! what stands around a method's run -/
abbrev aC : Type := aWg × Program × Launch × Env × Room × State × MethodId × Array Value × List Frame × Method × Code × (State → Prop)
def aCx (C : aC) (M : aM) : Prop := match C with
  | (g, p, _l, _e, R, s, m, args, _below, meth, c, _Q) =>
    p.tables.exec = Jvm.exec ∧ c.code = M.2.1 ∧ c.maxLocals = M.2.2.1 ∧ s.vm.findClass M.1 = some m.cls ∧ (∀ w ∈ aBase, w.before args s = true) ∧ va_K g.1 vwCl (aTy g) s ∧ aRo g s s.heap ∧ g.2.2.1 ≤ s.heap.size ∧ (M.2.2.2.1 = true → meth.name = "<init>") ∧ meth.locks = false ∧ meth.sig.returnType = M.2.2.2.2.1 ∧ R = M.2.2.2.2.2.1
def aX (C : aC) (M : aM) (k n : Nat) (cf : aCf) : Prop := match C with
  | (g, p, l, e, R, s, m, args, below, meth, c, Q) =>
    ∀ (H : Heap) (ls : Array Slot) (locs : List Loc), va_P g.1 vwCl (aWs g cf.2.2.2.1 cf.2.2.2.2) H → H.size = g.2.2.1 + cf.2.2.2.1.length → lv_has ls M.2.2.1 (cf.2.1.map (aCq g)) → va_S (aAg g) s.heap H locs →
      W p l e R s m args below meth c H locs k n Q (F0 m cf.1 ls (cf.2.2.1.map (aCv g)))
theorem aDc {M : aM} (h : aOK M) {pc : Nat} {ins : Instr} {len : Nat} (hq : aLk M.2.2.2.2.2.2.1 pc = some (ins, len)) : decode M.2.1 pc = .ok (ins, len) := h.d (pc, ins, len) (aLk_mem hq)
theorem aLoc {g : aWg} {ls : Array Slot} {nL : Nat} {lv : List (Nat × Value)} (h : lv_has ls nL (lv.map (aCq g))) {i : Nat} {v : Value} (hv : aLk lv i = some v) : ls[i]? = some (.val (aCv g v)) :=
  h.2.2 (aCq g (i, v)) (List.mem_map.mpr ⟨_, aLk_mem hv, rfl⟩)
theorem aFil1 (g : aWg) (i : Nat) (lv : List (Nat × Value)) : (lv.map (aCq g)).filter (fun q => !(q.1 == i) && !(q.1 + 1 == i && q.2.category == 2)) = (lv.filter (fun q => !(q.1 == i) && !(q.1 + 1 == i && q.2.category == 2))).map (aCq g) := by
  rw [List.filter_map]
  congr 1
  apply List.filter_congr
  intro q _
  simp [aCq, aCv_cat]
theorem aFil2 (g : aWg) (i : Nat) (lv : List (Nat × Value)) : (lv.map (aCq g)).filter (fun q => !(q.1 == i) && (!(q.1 == i + 1) && !(q.1 + 1 == i && q.2.category == 2))) = (lv.filter (fun q => !(q.1 == i) && (!(q.1 == i + 1) && !(q.1 + 1 == i && q.2.category == 2)))).map (aCq g) := by
  rw [List.filter_map]
  congr 1
  apply List.filter_congr
  intro q _
  simp [aCq, aCv_cat]
def aSt1 (i : Nat) (v : Value) (lv : List (Nat × Value)) : List (Nat × Value) := (i, v) :: lv.filter (fun q => !(q.1 == i) && !(q.1 + 1 == i && q.2.category == 2))
def aSt2 (i : Nat) (v : Value) (lv : List (Nat × Value)) : List (Nat × Value) := (i, v) :: lv.filter (fun q => !(q.1 == i) && (!(q.1 == i + 1) && !(q.1 + 1 == i && q.2.category == 2)))
theorem aSt1_map (g : aWg) (i : Nat) (v : Value) (lv : List (Nat × Value)) : (i, aCv g v) :: (lv.map (aCq g)).filter (fun q => !(q.1 == i) && !(q.1 + 1 == i && q.2.category == 2)) = (aSt1 i v lv).map (aCq g) := by
  rw [aFil1]; rfl
theorem aSt2_map (g : aWg) (i : Nat) (v : Value) (lv : List (Nat × Value)) : (i, aCv g v) :: (lv.map (aCq g)).filter (fun q => !(q.1 == i) && (!(q.1 == i + 1) && !(q.1 + 1 == i && q.2.category == 2))) = (aSt2 i v lv).map (aCq g) := by
  rw [aFil2]; rfl
def aPutOK (ty : FieldType) (v : Value) : Bool := match ty, v with
  | .int, .int _ => true
  | .long, .long _ => true
  | .boolean, .int x => x == 0 || x == 1
  | .object _, .ref _ => true
  | .array _, .ref _ => true
  | _, _ => false
theorem aPut_ok {ty : FieldType} {v : Value} (g : aWg) (h : aPutOK ty v = true) : narrow ty (aCv g v) = aCv g v ∧ fits ty (aCv g v) = true := by
  cases ty <;> cases v <;> first | (cases h; done) | exact ⟨rfl, rfl⟩ | skip
  rename_i x
  have hx : x = 0 ∨ x = 1 := by simpa [aPutOK] using h
  rcases hx with rfl | rfl
  · exact ⟨show narrow .boolean (.int 0) = .int 0 by decide, show fits .boolean (.int 0) = true by decide⟩
  · exact ⟨show narrow .boolean (.int 1) = .int 1 by decide, show fits .boolean (.int 1) = true by decide⟩
/-- a field's new value: the layout and the contents behind it -/
def aPut (lay : aLay) (S : aSt) (k ci j : Nat) (fs : List (Nat × Nat)) (v : Value) : Option (aLay × aSt) := match fs[j]?, v with
  | some (1, _), .int x => some (lay, aI S k j x)
  | some (2, _), .long x => some (lay, aL S k j x)
  | some (0, _), .ref r => some (lay.set k (.inr (ci, fs.set j (0, r + 1))), S)
  | _, _ => none
/-- one step of the straight kind -/
def aIns (M : aM) (ins : Instr) (len pc : Nat) (lv : List (Nat × Value)) (st : List Value) (lay : aLay) (S : aSt) : Option aCf := match ins with
  | .iconst i => if len = 1 then some (pc + 1, lv, .int (Int32.ofInt i) :: st, lay, S) else none
  | .bipush i => if len = 2 then some (pc + 2, lv, .int (Int8.ofInt i).toInt32 :: st, lay, S) else none
  | .sipush i => if len = 3 then some (pc + 3, lv, .int (Int16.ofInt i).toInt32 :: st, lay, S) else none
  | .lconst i => if len = 1 then some (pc + 1, lv, .long (Int64.ofNat i.val) :: st, lay, S) else none
  | .iload_n i => match aLk lv i.val with
    | some (.int x) => if len = 1 then some (pc + 1, lv, .int x :: st, lay, S) else none
    | _ => none
  | .iload i => match aLk lv i with
    | some (.int x) => if len = 2 then some (pc + 2, lv, .int x :: st, lay, S) else none
    | _ => none
  | .lload_n i => match aLk lv i.val with
    | some (.long x) => if len = 1 then some (pc + 1, lv, .long x :: st, lay, S) else none
    | _ => none
  | .lload i => match aLk lv i with
    | some (.long x) => if len = 2 then some (pc + 2, lv, .long x :: st, lay, S) else none
    | _ => none
  | .aload_n i => match aLk lv i.val with
    | some (.ref x) => if len = 1 then some (pc + 1, lv, .ref x :: st, lay, S) else none
    | _ => none
  | .aload i => match aLk lv i with
    | some (.ref x) => if len = 2 then some (pc + 2, lv, .ref x :: st, lay, S) else none
    | _ => none
  | .istore_n i => match st with
    | .int x :: r => if len = 1 ∧ i.val < M.2.2.1 then some (pc + 1, aSt1 i.val (.int x) lv, r, lay, S) else none
    | _ => none
  | .istore i => match st with
    | .int x :: r => if len = 2 ∧ i < M.2.2.1 then some (pc + 2, aSt1 i (.int x) lv, r, lay, S) else none
    | _ => none
  | .lstore_n i => match st with
    | .long x :: r => if len = 1 ∧ i.val + 1 < M.2.2.1 then some (pc + 1, aSt2 i.val (.long x) lv, r, lay, S) else none
    | _ => none
  | .lstore i => match st with
    | .long x :: r => if len = 2 ∧ i + 1 < M.2.2.1 then some (pc + 2, aSt2 i (.long x) lv, r, lay, S) else none
    | _ => none
  | .astore_n i => match st with
    | .ref x :: r => if len = 1 ∧ i.val < M.2.2.1 then some (pc + 1, aSt1 i.val (.ref x) lv, r, lay, S) else none
    | _ => none
  | .astore i => match st with
    | .ref x :: r => if len = 2 ∧ i < M.2.2.1 then some (pc + 2, aSt1 i (.ref x) lv, r, lay, S) else none
    | _ => none
  | .iinc i d => match aLk lv i with
    | some (.int x) => if len = 3 ∧ i < M.2.2.1 then some (pc + 3, aSt1 i (.int (x + Int32.ofInt d)) lv, st, lay, S) else none
    | _ => none
  | .iadd => match st with
    | .int y :: .int x :: r => if len = 1 then some (pc + 1, lv, .int (x + y) :: r, lay, S) else none
    | _ => none
  | .isub => match st with
    | .int y :: .int x :: r => if len = 1 then some (pc + 1, lv, .int (x - y) :: r, lay, S) else none
    | _ => none
  | .imul => match st with
    | .int y :: .int x :: r => if len = 1 then some (pc + 1, lv, .int (x * y) :: r, lay, S) else none
    | _ => none
  | .iand => match st with
    | .int y :: .int x :: r => if len = 1 then some (pc + 1, lv, .int (x &&& y) :: r, lay, S) else none
    | _ => none
  | .ior => match st with
    | .int y :: .int x :: r => if len = 1 then some (pc + 1, lv, .int (x ||| y) :: r, lay, S) else none
    | _ => none
  | .ixor => match st with
    | .int y :: .int x :: r => if len = 1 then some (pc + 1, lv, .int (x ^^^ y) :: r, lay, S) else none
    | _ => none
  | .ishl => match st with
    | .int y :: .int x :: r => if len = 1 then some (pc + 1, lv, .int (x <<< (y &&& 31)) :: r, lay, S) else none
    | _ => none
  | .ishr => match st with
    | .int y :: .int x :: r => if len = 1 then some (pc + 1, lv, .int (x >>> (y &&& 31)) :: r, lay, S) else none
    | _ => none
  | .idiv => match st with
    | .int y :: .int x :: r => if len = 1 ∧ ¬ y = 0 then some (pc + 1, lv, .int (x / y) :: r, lay, S) else none
    | _ => none
  | .irem => match st with
    | .int y :: .int x :: r => if len = 1 ∧ ¬ y = 0 then some (pc + 1, lv, .int (x - x / y * y) :: r, lay, S) else none
    | _ => none
  | .ineg => match st with
    | .int x :: r => if len = 1 then some (pc + 1, lv, .int (-x) :: r, lay, S) else none
    | _ => none
  | .i2l => match st with
    | .int x :: r => if len = 1 then some (pc + 1, lv, .long x.toInt64 :: r, lay, S) else none
    | _ => none
  | .l2i => match st with
    | .long x :: r => if len = 1 then some (pc + 1, lv, .int x.toInt32 :: r, lay, S) else none
    | _ => none
  | .i2c => match st with
    | .int x :: r => if len = 1 then some (pc + 1, lv, .int (x.toUInt32 % 65536).toInt32 :: r, lay, S) else none
    | _ => none
  | .ladd => match st with
    | .long y :: .long x :: r => if len = 1 then some (pc + 1, lv, .long (x + y) :: r, lay, S) else none
    | _ => none
  | .lmul => match st with
    | .long y :: .long x :: r => if len = 1 then some (pc + 1, lv, .long (x * y) :: r, lay, S) else none
    | _ => none
  | .land => match st with
    | .long y :: .long x :: r => if len = 1 then some (pc + 1, lv, .long (x &&& y) :: r, lay, S) else none
    | _ => none
  | .lor => match st with
    | .long y :: .long x :: r => if len = 1 then some (pc + 1, lv, .long (x ||| y) :: r, lay, S) else none
    | _ => none
  | .lshl => match st with
    | .int y :: .long x :: r => if len = 1 then some (pc + 1, lv, .long (x <<< (y.toInt64 &&& 63)) :: r, lay, S) else none
    | _ => none
  | .lshr => match st with
    | .int y :: .long x :: r => if len = 1 then some (pc + 1, lv, .long (x >>> (y.toInt64 &&& 63)) :: r, lay, S) else none
    | _ => none
  | .lcmp => match st with
    | .long y :: .long x :: r => if len = 1 then some (pc + 1, lv, .int (lg_cmp x y) :: r, lay, S) else none
    | _ => none
  | .dup => match st with
    | v :: r => if len = 1 ∧ v.category = 1 then some (pc + 1, lv, v :: v :: r, lay, S) else none
    | _ => none
  | .pop => match st with
    | v :: r => if len = 1 ∧ v.category = 1 then some (pc + 1, lv, r, lay, S) else none
    | _ => none
  | .dup2 => match st with
    | v :: u :: r => if len = 1 ∧ v.category = 1 ∧ u.category = 1 then some (pc + 1, lv, v :: u :: v :: u :: r, lay, S) else none
    | _ => none
  | .goto off => if len = 3 ∧ 0 ≤ (pc : Int) + off then some (((pc : Int) + off).toNat, lv, st, lay, S) else none
  | .ldc i => match aLk M.2.2.2.2.2.2.2.2.1 i with
    | some (_, .int v) => if len = 2 then some (pc + 2, lv, .int v :: st, lay, S) else none
    | some (_, .ref v) => if len = 2 then some (pc + 2, lv, .ref v :: st, lay, S) else none
    | _ => none
  | .ldc2_w i => match aLk M.2.2.2.2.2.2.2.2.1 i with
    | some (_, .long v) => if len = 3 then some (pc + 3, lv, .long v :: st, lay, S) else none
    | _ => none
  | .getstatic i => match aLk M.2.2.2.2.2.2.2.2.2 i with
    | some (_, 0) => if len = 3 then some (pc + 3, lv, .ref 1001 :: st, lay, S) else none
    | some (_, 1) => if len = 3 then some (pc + 3, lv, .int 1 :: st, lay, S) else none
    | some (_, 2) => if len = 3 then some (pc + 3, lv, .retAddr 0 :: st, lay, S) else none
    | _ => none
  | .getfield i => match aLk M.2.2.2.2.2.2.2.1 i, st with
    | some (_, ci, j, _), .ref k :: r => if len = 3 then
        (if k < 1000 then (match lay[k]? with
          | some (.inr (cj, fs)) => if ci = cj then (match fs[j]? with
            | some f => some (pc + 3, lv, aFv S k j f :: r, lay, S)
            | none => none) else none
          | _ => none)
        else if ci = 100 ∧ 1002 ≤ k ∧ k < 1011 then some (pc + 3, lv, (if j = 0 then .int 0 else .ref (k + 9)) :: r, lay, S) else none)
      else none
    | _, _ => none
  | .putfield i => match aLk M.2.2.2.2.2.2.2.1 i, st with
    | some (_, ci, j, ty), v :: .ref k :: r => if len = 3 ∧ k < 1000 ∧ aPutOK ty v = true then
        (match lay[k]?, aCl ci with
          | some (.inr (cj, fs)), some (_, T, _) => if ci = cj ∧ ((T j).2.2.2 = false ∨ (M.2.2.2.1 = true ∧ (T j).1 = M.1)) then (match aPut lay S k ci j fs v with
            | some q => some (pc + 3, lv, r, q.1, q.2)
            | none => none) else none
          | _, _ => none)
      else none
    | _, _ => none
  | .arraylength => match st with
    | .ref k :: r => if len = 1 then
        (if k < 1000 then (match lay[k]? with
          | some (.inl a) => if a.1 < 2 then some (pc + 1, lv, .int (Int32.ofNat a.2) :: r, lay, S) else none
          | _ => none)
        else if k = 1001 then some (pc + 1, lv, .int 7 :: r, lay, S)
        else if 1011 ≤ k ∧ k < 1020 then some (pc + 1, lv, .int (Int32.ofNat (aLen.getD (k - 1011) 0)) :: r, lay, S) else none) else none
    | _ => none
  | _ => none
def aStep (M : aM) (cf : aCf) : Option aCf := match aLk M.2.2.2.2.2.2.1 cf.1 with
  | none => none
  | some q => aIns M q.1 q.2 cf.1 cf.2.1 cf.2.2.1 cf.2.2.2.1 cf.2.2.2.2
def aRun : Nat → aM → aCf → Option aCf
  | 0, _, cf => some cf
  | n + 1, M, cf => match aStep M cf with
    | none => none
    | some cf' => aRun n M cf'
theorem aTb {i : Nat} {w : Cond} (h : lw_tbl[i]? = some w) (hg : goodWord w = true) : w ∈ aBase := List.mem_filter.mpr ⟨List.mem_of_getElem? h, hg⟩
theorem aTw {args : Array Value} {s : State} (hts : ∀ w ∈ aBase, w.before args s = true) {i : Nat} {w : Cond} (h : lw_tbl[i]? = some w) (hg : goodWord w = true := by rfl) : w.before args s = true := hts w (aTb h hg)
theorem aCls : ∀ q ∈ vwCl, (∀ w ∈ u_ws q.1 q.2.1 q.2.2, w ∈ aBase) ∧ (∀ k, k < q.2.2 → parseFieldDescriptor (q.2.1 k).2.2.1 = some ((parseFieldDescriptor (q.2.1 k).2.2.1).getD .int)) ∧ (∀ a, a < q.2.2 → ∀ b, b < q.2.2 → a ≠ b → (q.2.1 a).2.1 ≠ (q.2.1 b).2.1) := by decide +kernel
theorem aCvR (g : aWg) {k : Nat} (h : k < 1000) : aCv g (.ref k) = .ref (g.2.2.1 + k) := by
  show Value.ref (if k < 1000 then _ else _) = _
  rw [if_pos h]
theorem aCvO (g : aWg) {k : Nat} (h : 1000 ≤ k) : aCv g (.ref k) = .ref (g.2.2.2 (k - 1000)) := by
  show Value.ref (if k < 1000 then _ else _) = _
  rw [if_neg (by omega)]
theorem aRef2 (g : aWg) (v : Nat) : aCv g (.ref (1002 + v)) = .ref (g.2.2.2 (2 + v)) := by
  rw [aCvO g (by omega), show 1002 + v - 1000 = 2 + v by omega]
theorem aRefS (g : aWg) (k : Nat) (h2 : 1002 ≤ k) (h3 : k < 1011) : k - 1002 < 9 ∧ aCv g (.ref k) = .ref (g.2.2.2 (2 + (k - 1002))) ∧ aCv g (.ref (k + 9)) = .ref (g.2.2.2 (11 + (k - 1002))) := by
  refine ⟨by omega, ?_, ?_⟩
  · rw [aCvO g (by omega), show k - 1000 = 2 + (k - 1002) by omega]
  · rw [aCvO g (by omega), show k + 9 - 1000 = 11 + (k - 1002) by omega]
theorem aRefB (g : aWg) (k : Nat) (h2 : 1011 ≤ k) (h3 : k < 1020) : k - 1011 < 9 ∧ aCv g (.ref k) = .ref (g.2.2.2 (11 + (k - 1011))) := by
  refine ⟨by omega, ?_⟩
  rw [aCvO g (by omega), show k - 1000 = 11 + (k - 1011) by omega]
theorem aFv_eq {S S' : aSt} {k : Nat} (h1 : S.1 k = S'.1 k) (h2 : S.2.1 k = S'.2.1 k) (j : Nat) (f : Nat × Nat) : aFv S k j f = aFv S' k j f := by
  unfold aFv
  rw [h1, h2]
theorem aCell_eq {g : aWg} {S S' : aSt} {k : Nat} {o : aSh} (h1 : S.1 k = S'.1 k) (h2 : S.2.1 k = S'.2.1 k) (h3 : S.2.2 k = S'.2.2 k) : aCell g S k o = aCell g S' k o := by
  unfold aCell
  cases o with
  | inl x => simp only [h3]
  | inr x => simp only [aFv_eq h1 h2]
theorem aI_ne (S : aSt) {k a : Nat} (j : Nat) (v : Int32) (h : a ≠ k) : S.1 a = (aI S k j v).1 a := by simp [aI, h]
theorem aI_at (S : aSt) (k j b : Nat) (v : Int32) : (aI S k j v).1 k b = if b = j then v else S.1 k b := by simp [aI]
theorem aL_ne (S : aSt) {k a : Nat} (j : Nat) (v : Int64) (h : a ≠ k) : S.2.1 a = (aL S k j v).2.1 a := by simp [aL, h]
theorem aL_at (S : aSt) (k j b : Nat) (v : Int64) : (aL S k j v).2.1 k b = if b = j then v else S.2.1 k b := by simp [aL]
theorem aA_ne (S : aSt) {k a : Nat} (f : Nat → Int32) (h : a ≠ k) : S.2.2 a = (aA S k f).2.2 a := by simp [aA, h]
theorem aA_at (S : aSt) (k : Nat) (f : Nat → Int32) : (aA S k f).2.2 k = f := by simp [aA]
theorem aObj_get {g : aWg} {S : aSt} {k j : Nat} {fs : List (Nat × Nat)} {f : Nat × Nat} (h : fs[j]? = some f) : (fs.mapIdx (fun j f => aCv g (aFv S k j f)))[j]? = some (aCv g (aFv S k j f)) := by
  rw [List.getElem?_mapIdx, h]; rfl
theorem aObj_set {g : aWg} {S S' : aSt} {k j : Nat} {fs : List (Nat × Nat)} {f' : Nat × Nat} {v : Value} (hj : j < fs.length) (hv : aFv S' k j f' = v) (ho : ∀ b, b ≠ j → ∀ f, aFv S k b f = aFv S' k b f) :
    (fs.mapIdx (fun j f => aCv g (aFv S k j f))).set j (aCv g v) = (fs.set j f').mapIdx (fun j f => aCv g (aFv S' k j f)) := by
  apply List.ext_getElem?
  intro i
  rw [List.getElem?_mapIdx]
  by_cases hi : i = j
  · subst hi
    rw [List.getElem?_set_self (by simpa using hj), List.getElem?_set_self hj]
    simp [hv]
  · rw [List.getElem?_set_ne (Ne.symm hi), List.getElem?_set_ne (Ne.symm hi), List.getElem?_mapIdx]
    cases fs[i]? with
    | none => rfl
    | some f => simp [ho i hi f]
theorem aPut_ws {g : aWg} {lay : aLay} {S : aSt} {k ci j : Nat} {fs : List (Nat × Nat)} {v : Value} {q : aLay × aSt} (hl : lay[k]? = some (.inr (ci, fs))) (h : aPut lay S k ci j fs v = some q) :
    j < fs.length ∧ (aWs g lay S).set k (g.2.2.1 + k, .inr (ci, (fs.mapIdx (fun j f => aCv g (aFv S k j f))).set j (aCv g v))) = aWs g q.1 q.2 ∧ q.1.length = lay.length := by
  unfold aPut at h
  split at h
  · rename_i z x hf
    cases h
    have hj : j < fs.length := (List.getElem?_eq_some_iff.mp hf).1
    refine ⟨hj, ?_, rfl⟩
    have e := aObj_set (g := g) (S := S) (S' := aI S k j x) (k := k) (f' := (1, z)) (v := .int x) hj (by simp [aFv, aI_at]) (fun b hb f => by simp [aFv, aI, hb])
    have hs : fs.set j (1, z) = fs := by
      apply List.ext_getElem?
      intro i
      by_cases hi : i = j
      · subst hi; rw [List.getElem?_set_self hj, hf]
      · rw [List.getElem?_set_ne (Ne.symm hi)]
    rw [e, hs]
    have h2 := aWs_set (g := g) (S := S) (S' := aI S k j x) (k := k) (o := .inr (ci, fs)) (aLay_lt hl) (fun a o' ha => aCell_eq (aI_ne S j x ha) rfl rfl)
    rw [aLay_set hl] at h2
    exact h2
  · rename_i z x hf
    cases h
    have hj : j < fs.length := (List.getElem?_eq_some_iff.mp hf).1
    refine ⟨hj, ?_, rfl⟩
    have e := aObj_set (g := g) (S := S) (S' := aL S k j x) (k := k) (f' := (2, z)) (v := .long x) hj (by simp [aFv, aL_at]) (fun b hb f => by simp [aFv, aL, hb])
    have hs : fs.set j (2, z) = fs := by
      apply List.ext_getElem?
      intro i
      by_cases hi : i = j
      · subst hi; rw [List.getElem?_set_self hj, hf]
      · rw [List.getElem?_set_ne (Ne.symm hi)]
    rw [e, hs]
    have h2 := aWs_set (g := g) (S := S) (S' := aL S k j x) (k := k) (o := .inr (ci, fs)) (aLay_lt hl) (fun a o' ha => aCell_eq rfl (aL_ne S j x ha) rfl)
    rw [aLay_set hl] at h2
    exact h2
  · rename_i z r hf
    cases h
    have hj : j < fs.length := (List.getElem?_eq_some_iff.mp hf).1
    refine ⟨hj, ?_, by simp⟩
    have e := aObj_set (g := g) (S := S) (S' := S) (k := k) (f' := (0, r + 1)) (v := .ref r) hj (by simp [aFv]) (fun b hb f => rfl)
    rw [e]
    exact aWs_set (g := g) (S := S) (S' := S) (k := k) (o := .inr (ci, fs.set j (0, r + 1))) (aLay_lt hl) (fun a o' ha => rfl)
  · cases h
section AW
variable {p : Program} {l : Launch} {e : Env} {R : Room} {s : State} {m : MethodId} {args : Array Value} {below : List Frame} {meth : Method} {c : Code} {H : Heap} {locs : List Loc} {cells slots : Nat} {Q : State → Prop}
variable {cc : ByteArray} {pc : Nat} {ls : Array Slot} {rest : List Value} {D : va_G} {cl : List vw_C} {tys : List (ClassId × FieldType)} {ws : va_W} {A : Nat → Prop} {H0 : Heap} {a : Nat}
/-- a field is written: what the heap holds then, and that it has its size still -/
theorem aPutW (hx : p.tables.exec = Jvm.exec) (hb : c.code = cc) {own C : String} {T : u_T} {N ci idx : Nat} {Ts : List Cond} (hts : ∀ w ∈ Ts, w.before args s = true) (hin : ∀ w ∈ u_ws C T N, w ∈ Ts) (ty0 : Nat → FieldType) (hty : ∀ k, k < N → parseFieldDescriptor (T k).2.2.1 = some (ty0 k)) (hnm : ∀ a, a < N → ∀ b, b < N → a ≠ b → (T a).2.1 ≠ (T b).2.1)
    (hown : s.vm.findClass own = some m.cls) (hK : va_K D cl tys s) (hP : va_P D cl ws H) (hD : va_D A ws) (hS0 : va_S A H0 H locs) (q0 : Nat) {fs : List Value} (he : ws[q0]? = some (a, .inr (ci, fs))) (hc : cl[ci]? = some (C, T, N)) (k : Nat) (hk : k < N) (hlink : (Cond.fieldLink own idx (T k).1 (T k).2.1 (T k).2.2.1).before args s = true)
    (hfin : (T k).2.2.2 = false ∨ (meth.name = "<init>" ∧ (T k).1 = own)) {ty : FieldType} {v : Value} (hd : parseFieldDescriptor (T k).2.2.1 = some ty) (hn : narrow ty v = v) (hfit : fits ty v = true) (hl : k < fs.length) (hdg : decode cc pc = .ok (.putfield idx, 3))
    (kk : ∀ (H1 : Heap) (locs1 : List Loc), va_P D cl (ws.set q0 (a, .inr (ci, fs.set k v))) H1 → H1.size = H.size → va_S A H0 H1 locs1 → W p l e R s m args below meth c H1 locs1 cells slots Q (F0 m (pc + 3) ls rest)) : W p l e R s m args below meth c H locs cells slots Q (F0 m pc ls (v :: .ref a :: rest)) := by
  have hap := va_apart (own := own) hts hin ty0 hty hnm hK hc
  obtain ⟨r, h1, cell, q1, q2, q3, q4⟩ := hP q0 _ he
  cases Option.some.inj (h1.symm.trans hc)
  obtain ⟨hS, hfc, kC, hkC, hkind⟩ := hK.1 ci _ hc
  obtain ⟨cf, kf, fi, f, hi, hsl⟩ := hS k hk
  have hlays := u_lays hts hin hk
  have hst := (u_facts hfc hkC hlays hi).1
  obtain ⟨hnr, hft⟩ := u_fits hfc hkC hkind hlays hi hd hn hfit
  have hlt : f.slot < cell.slots.size := by rw [hsl]; exact k2_hasslot (q4 k hk)
  have hfn : hasFlag f.accessFlags Acc.final = false ∨ (m.cls = cf ∧ meth.name = "<init>") := by
    by_cases hff : (T k).2.2.2 = false
    · have hlay := hts _ (hin _ (u_in_lay hk))
      unfold u_lay at hlay
      rw [if_neg (by rw [hff]; decide)] at hlay
      exact Or.inl (u_store hfc hkC hkind hlay hi hd hn hfit).1
    · rcases hfin with h | ⟨hini, hdecl⟩
      · exact absurd h hff
      · have hlay := hts _ (hin _ (u_in_lay hk))
        unfold u_lay at hlay
        rw [if_pos (by cases hq : (T k).2.2.2 with | true => rfl | false => exact absurd hq hff)] at hlay
        refine Or.inr ⟨?_, hini⟩
        obtain ⟨_, _, c', _, _, _, -, -, hf', -, -, -, hown2, -⟩ := Cond.laysFinal_spec hlay
        have e1 : c' = cf := by have := hi.symm.trans hf'; simp at this; exact this.1.symm
        rw [hdecl] at hown2
        rw [← e1]; exact Option.some.inj (hown.symm.trans hown2)
  have ha : a < H.size := (Array.getElem?_eq_some_iff.mp q1).1
  refine W.putf hx hb hown hlink hi hst hfn q1 (by rw [q3]; exact fun h => by cases h) hlt hnr (by rw [q2, q3]; exact hft) rfl rfl hdg ?_
  have e1 : (H.setIfInBounds a (cell.setSlot f.slot v))[a]? = some (cell.setSlot f.slot v) := by simp [ha]
  have e2 : (H.setIfInBounds a (cell.setSlot f.slot v)).size = H.size := by simp
  have e3 : ∀ q, q ≠ a → (H.setIfInBounds a (cell.setSlot f.slot v))[q]? = H[q]? := fun q hq => Array.getElem?_setIfInBounds_ne (Ne.symm hq)
  generalize H.setIfInBounds a (cell.setSlot f.slot v) = H' at e1 e2 e3
  rw [hsl] at e1 ⊢
  exact kk H' _ (hP.set hD he ⟨_, hc, t_OB.to (V := updV (vp_V fs) k v) ⟨_, e1, q2, q3, t_set q4 hap hk v⟩ (fun j _ => vp_updV_set hl v j)⟩ e3) e2 (hS0.put e2 e3 (hD.2 q0 _ he))
theorem aIastW (hx : p.tables.exec = Jvm.exec) (hb : c.code = cc) (hK : va_K D cl tys s) (hP : va_P D cl ws H) (hD : va_D A ws) (hS : va_S A H0 H locs) (q0 t0 : Nat) {cA : ClassId} {n : Nat} {f : Nat → Int32} (ha : ws[q0]? = some (a, .inl (cA, n, .inl f))) (ht : tys[t0]? = some (cA, .int)) {i : Int32} {x : Int32} (hin : vp_in i n) (hdg : decode cc pc = .ok (.iastore, 1))
    (kk : ∀ (H1 : Heap) (locs1 : List Loc), va_P D cl (ws.set q0 (a, .inl (cA, n, .inl (upd f i.toNatClampNeg x)))) H1 → H1.size = H.size → va_S A H0 H1 locs1 → W p l e R s m args below meth c H1 locs1 cells slots Q (F0 m (pc + 1) ls rest)) : W p l e R s m args below meth c H locs cells slots Q (F0 m pc ls (.int x :: .int i :: .ref a :: rest)) := by
  refine W.iast hx hb (hP q0 _ ha) ((hK.2 t0 _ ht).1 n (fun j => .int (f j))) (fun q => by cases q) (by show ¬ (i < 0 ∨ (arrV _ _ _).slots.size ≤ _); rw [arrV_size]; exact hin) rfl rfl hdg fun H1 e1 z oq => ?_
  refine kk H1 _ (hP.set hD ha ?_ oq) z (hS.put z oq (hD.2 q0 _ ha))
  show H1[a]? = some (vp_cell _ _)
  rw [e1, vp_cell_i, vp_cell_i, arrV_store]
  congr 2
  funext q
  by_cases hq : q = i.toNatClampNeg
  · subst hq
    simp [updV, upd]
  · simp [updV, upd, hq]
theorem aZastW (hx : p.tables.exec = Jvm.exec) (hb : c.code = cc) (hK : va_K D cl tys s) (hP : va_P D cl ws H) (hD : va_D A ws) (hS : va_S A H0 H locs) (q0 t0 : Nat) {cA : ClassId} {n : Nat} {f : Nat → Int32} (ha : ws[q0]? = some (a, .inl (cA, n, .inl f))) (ht : tys[t0]? = some (cA, .boolean)) {i : Int32} {x : Int32} (hin : vp_in i n) (hxx : narrow .boolean (.int x) = .int x) (hdg : decode cc pc = .ok (.bastore, 1))
    (kk : ∀ (H1 : Heap) (locs1 : List Loc), va_P D cl (ws.set q0 (a, .inl (cA, n, .inl (upd f i.toNatClampNeg x)))) H1 → H1.size = H.size → va_S A H0 H1 locs1 → W p l e R s m args below meth c H1 locs1 cells slots Q (F0 m (pc + 1) ls rest)) : W p l e R s m args below meth c H locs cells slots Q (F0 m pc ls (.int x :: .int i :: .ref a :: rest)) := by
  refine W.zast hx hb (hP q0 _ ha) ((hK.2 t0 _ ht).1 n (fun j => .int (f j))) (fun q => by cases q) (by show ¬ (i < 0 ∨ (arrV _ _ _).slots.size ≤ _); rw [arrV_size]; exact hin) rfl rfl hdg fun H1 e1 z oq => ?_
  refine kk H1 _ (hP.set hD ha ?_ oq) z (hS.put z oq (hD.2 q0 _ ha))
  show H1[a]? = some (vp_cell _ _)
  rw [e1, hxx, vp_cell_i, vp_cell_i, arrV_store]
  congr 2
  funext q
  by_cases hq : q = i.toNatClampNeg
  · subst hq
    simp [updV, upd]
  · simp [updV, upd, hq]
end AW
set_option maxHeartbeats 4000000 in
set_option maxRecDepth 100000 in
theorem aIns_ok {C : aC} {M : aM} {k n : Nat} {ins : Instr} {len pc : Nat} {lv : List (Nat × Value)} {st : List Value} {lay : aLay} {S : aSt} {cf' : aCf} (hC : aCx C M) (hT : aOK M) (hd : decode M.2.1 pc = .ok (ins, len))
    (h : aIns M ins len pc lv st lay S = some cf') (kk : aX C M k n cf') : aX C M k n (pc, lv, st, lay, S) := by
  obtain ⟨g, p, l, e, R, s, m, args, below, meth, c, Q⟩ := C
  obtain ⟨hx, hb, hml, hown, hts, hK, hRo, hbs, hini, hlk, hret, hR⟩ := hC
  intro H ls locs hP hz hl hS
  dsimp only at hP hz hl
  show W p l e R s m args below meth c H locs k n Q (F0 m pc ls (st.map (aCv g)))
  cases ins
  case iconst i =>
    simp only [aIns] at h
    split at h
    · rename_i hc
      cases h
      subst hc
      exact lv_iconst hx hb hd rfl (kk H ls locs hP hz hl hS)
    · cases h
  case bipush i =>
    simp only [aIns] at h
    split at h
    · rename_i hc
      cases h
      subst hc
      exact lv_bipush hx hb hd rfl (kk H ls locs hP hz hl hS)
    · cases h
  case sipush i =>
    simp only [aIns] at h
    split at h
    · rename_i hc
      cases h
      subst hc
      exact lv_sipush hx hb hd rfl (kk H ls locs hP hz hl hS)
    · cases h
  case lconst i =>
    simp only [aIns] at h
    split at h
    · rename_i hc
      cases h
      subst hc
      exact lv_lconst hx hb hd rfl (kk H ls locs hP hz hl hS)
    · cases h
  case iload_n i =>
    simp only [aIns] at h
    split at h
    · rename_i x hq
      split at h
      · rename_i hc
        cases h
        subst hc
        exact lv_iload_n hx hb hd rfl (aLoc hl hq) (kk H ls locs hP hz hl hS)
      · cases h
    · cases h
  case iload i =>
    simp only [aIns] at h
    split at h
    · rename_i x hq
      split at h
      · rename_i hc
        cases h
        subst hc
        exact lv_iload hx hb hd (aLoc hl hq) (kk H ls locs hP hz hl hS)
      · cases h
    · cases h
  case lload_n i =>
    simp only [aIns] at h
    split at h
    · rename_i x hq
      split at h
      · rename_i hc
        cases h
        subst hc
        exact lv_lload_n hx hb hd rfl (aLoc hl hq) (kk H ls locs hP hz hl hS)
      · cases h
    · cases h
  case lload i =>
    simp only [aIns] at h
    split at h
    · rename_i x hq
      split at h
      · rename_i hc
        cases h
        subst hc
        exact lv_lload hx hb hd (aLoc hl hq) (kk H ls locs hP hz hl hS)
      · cases h
    · cases h
  case aload_n i =>
    simp only [aIns] at h
    split at h
    · rename_i x hq
      split at h
      · rename_i hc
        cases h
        subst hc
        exact lv_aload_n hx hb hd rfl (aLoc hl hq) (kk H ls locs hP hz hl hS)
      · cases h
    · cases h
  case aload i =>
    simp only [aIns] at h
    split at h
    · rename_i x hq
      split at h
      · rename_i hc
        cases h
        subst hc
        exact lv_aload hx hb hd (aLoc hl hq) (kk H ls locs hP hz hl hS)
      · cases h
    · cases h
  case istore_n i =>
    simp only [aIns] at h
    split at h
    · rename_i x r
      split at h
      · rename_i hc
        cases h
        obtain ⟨hc, hn⟩ := hc
        subst hc
        exact lv_istore_n hx hb hd rfl hl hn (aSt1_map g i.val (.int x) lv) (fun ls' hl' => kk H ls' locs hP hz hl' hS)
      · cases h
    · cases h
  case istore i =>
    simp only [aIns] at h
    split at h
    · rename_i x r
      split at h
      · rename_i hc
        cases h
        obtain ⟨hc, hn⟩ := hc
        subst hc
        exact lv_istore hx hb hd hl hn (aSt1_map g i (.int x) lv) (fun ls' hl' => kk H ls' locs hP hz hl' hS)
      · cases h
    · cases h
  case lstore_n i =>
    simp only [aIns] at h
    split at h
    · rename_i x r
      split at h
      · rename_i hc
        cases h
        obtain ⟨hc, hn⟩ := hc
        subst hc
        exact lv_lstore_n hx hb hd rfl hl hn (aSt2_map g i.val (.long x) lv) (fun ls' hl' => kk H ls' locs hP hz hl' hS)
      · cases h
    · cases h
  case lstore i =>
    simp only [aIns] at h
    split at h
    · rename_i x r
      split at h
      · rename_i hc
        cases h
        obtain ⟨hc, hn⟩ := hc
        subst hc
        exact lv_lstore hx hb hd hl hn (aSt2_map g i (.long x) lv) (fun ls' hl' => kk H ls' locs hP hz hl' hS)
      · cases h
    · cases h
  case astore_n i =>
    simp only [aIns] at h
    split at h
    · rename_i x r
      split at h
      · rename_i hc
        cases h
        obtain ⟨hc, hn⟩ := hc
        subst hc
        exact lv_astore_n hx hb hd rfl hl hn (aSt1_map g i.val (.ref x) lv) (fun ls' hl' => kk H ls' locs hP hz hl' hS)
      · cases h
    · cases h
  case astore i =>
    simp only [aIns] at h
    split at h
    · rename_i x r
      split at h
      · rename_i hc
        cases h
        obtain ⟨hc, hn⟩ := hc
        subst hc
        exact lv_astore hx hb hd hl hn (aSt1_map g i (.ref x) lv) (fun ls' hl' => kk H ls' locs hP hz hl' hS)
      · cases h
    · cases h
  case iinc i d =>
    simp only [aIns] at h
    split at h
    · rename_i x hq
      split at h
      · rename_i hc
        cases h
        obtain ⟨hc, hn⟩ := hc
        subst hc
        obtain ⟨k0, hk0⟩ := List.getElem?_of_mem (List.mem_map.mpr ⟨_, aLk_mem hq, rfl⟩ : aCq g (i, .int x) ∈ lv.map (aCq g))
        exact lv_iinc hx hb hd hl (k := k0) hk0 rfl hn (aSt1_map g i (.int (x + Int32.ofInt d)) lv) (fun ls' hl' => kk H ls' locs hP hz hl' hS)
      · cases h
    · cases h
  case iadd =>
    simp only [aIns] at h
    split at h
    · split at h
      · rename_i hc
        cases h
        subst hc
        exact lv_iadd hx hb hd (kk H ls locs hP hz hl hS)
      · cases h
    · cases h
  case isub =>
    simp only [aIns] at h
    split at h
    · split at h
      · rename_i hc
        cases h
        subst hc
        exact lv_isub hx hb hd (kk H ls locs hP hz hl hS)
      · cases h
    · cases h
  case imul =>
    simp only [aIns] at h
    split at h
    · split at h
      · rename_i hc
        cases h
        subst hc
        exact lv_imul hx hb hd (kk H ls locs hP hz hl hS)
      · cases h
    · cases h
  case iand =>
    simp only [aIns] at h
    split at h
    · split at h
      · rename_i hc
        cases h
        subst hc
        exact lv_iand hx hb hd (kk H ls locs hP hz hl hS)
      · cases h
    · cases h
  case ior =>
    simp only [aIns] at h
    split at h
    · split at h
      · rename_i hc
        cases h
        subst hc
        exact lv_ior hx hb hd (kk H ls locs hP hz hl hS)
      · cases h
    · cases h
  case ixor =>
    simp only [aIns] at h
    split at h
    · split at h
      · rename_i hc
        cases h
        subst hc
        exact lv_ixor hx hb hd (kk H ls locs hP hz hl hS)
      · cases h
    · cases h
  case ishl =>
    simp only [aIns] at h
    split at h
    · split at h
      · rename_i hc
        cases h
        subst hc
        exact lv_ishl hx hb hd (kk H ls locs hP hz hl hS)
      · cases h
    · cases h
  case ishr =>
    simp only [aIns] at h
    split at h
    · split at h
      · rename_i hc
        cases h
        subst hc
        exact lv_ishr hx hb hd (kk H ls locs hP hz hl hS)
      · cases h
    · cases h
  case idiv =>
    simp only [aIns] at h
    split at h
    · split at h
      · rename_i hc
        cases h
        have hc0 := hc.1
        subst hc0
        exact lv_idiv hx hb hd hc.2 (kk H ls locs hP hz hl hS)
      · cases h
    · cases h
  case irem =>
    simp only [aIns] at h
    split at h
    · split at h
      · rename_i hc
        cases h
        have hc0 := hc.1
        subst hc0
        exact lv_irem hx hb hd hc.2 (kk H ls locs hP hz hl hS)
      · cases h
    · cases h
  case ineg =>
    simp only [aIns] at h
    split at h
    · split at h
      · rename_i hc
        cases h
        subst hc
        exact lv_ineg hx hb hd (kk H ls locs hP hz hl hS)
      · cases h
    · cases h
  case i2l =>
    simp only [aIns] at h
    split at h
    · split at h
      · rename_i hc
        cases h
        subst hc
        exact lv_i2l hx hb hd rfl (kk H ls locs hP hz hl hS)
      · cases h
    · cases h
  case l2i =>
    simp only [aIns] at h
    split at h
    · split at h
      · rename_i hc
        cases h
        subst hc
        exact lv_l2i hx hb hd rfl (kk H ls locs hP hz hl hS)
      · cases h
    · cases h
  case i2c =>
    simp only [aIns] at h
    split at h
    · split at h
      · rename_i hc
        cases h
        subst hc
        exact lv_i2c hx hb hd rfl (kk H ls locs hP hz hl hS)
      · cases h
    · cases h
  case ladd =>
    simp only [aIns] at h
    split at h
    · split at h
      · rename_i hc
        cases h
        subst hc
        exact lv_ladd hx hb hd (kk H ls locs hP hz hl hS)
      · cases h
    · cases h
  case lmul =>
    simp only [aIns] at h
    split at h
    · split at h
      · rename_i hc
        cases h
        subst hc
        exact lv_lmul hx hb hd (kk H ls locs hP hz hl hS)
      · cases h
    · cases h
  case land =>
    simp only [aIns] at h
    split at h
    · split at h
      · rename_i hc
        cases h
        subst hc
        exact lv_land hx hb hd (kk H ls locs hP hz hl hS)
      · cases h
    · cases h
  case lor =>
    simp only [aIns] at h
    split at h
    · split at h
      · rename_i hc
        cases h
        subst hc
        exact lv_lor hx hb hd (kk H ls locs hP hz hl hS)
      · cases h
    · cases h
  case lshl =>
    simp only [aIns] at h
    split at h
    · split at h
      · rename_i hc
        cases h
        subst hc
        exact lv_lshl hx hb hd rfl (kk H ls locs hP hz hl hS)
      · cases h
    · cases h
  case lshr =>
    simp only [aIns] at h
    split at h
    · split at h
      · rename_i hc
        cases h
        subst hc
        exact lv_lshr hx hb hd rfl (kk H ls locs hP hz hl hS)
      · cases h
    · cases h
  case lcmp =>
    simp only [aIns] at h
    split at h
    · split at h
      · rename_i hc
        cases h
        subst hc
        exact W.lcmp hx hb hd (kk H ls locs hP hz hl hS)
      · cases h
    · cases h
  case dup =>
    simp only [aIns] at h
    split at h
    · split at h
      · rename_i hc
        cases h
        have hc0 := hc.1
        subst hc0
        exact lv_dup hx hb hd (by rw [aCv_cat]; exact hc.2) (kk H ls locs hP hz hl hS)
      · cases h
    · cases h
  case pop =>
    simp only [aIns] at h
    split at h
    · split at h
      · rename_i hc
        cases h
        have hc0 := hc.1
        subst hc0
        exact lv_pop hx hb hd (by rw [aCv_cat]; exact hc.2) (kk H ls locs hP hz hl hS)
      · cases h
    · cases h
  case dup2 =>
    simp only [aIns] at h
    split at h
    · split at h
      · rename_i hc
        cases h
        have hc0 := hc.1
        subst hc0
        exact lv_dup2_11 hx hb hd (by rw [aCv_cat]; exact hc.2.1) (by rw [aCv_cat]; exact hc.2.2) (kk H ls locs hP hz hl hS)
      · cases h
    · cases h
  case goto off =>
    simp only [aIns] at h
    split at h
    · rename_i hc
      cases h
      obtain ⟨hc, hn⟩ := hc
      subst hc
      exact lv_goto hx hb hd (Int.toNat_of_nonneg hn).symm (kk H ls locs hP hz hl hS)
    · cases h
  case ldc i =>
    simp only [aIns] at h
    split at h
    · rename_i pl v hq
      split at h
      · rename_i hc
        cases h
        subst hc
        rcases hT.c _ (aLk_mem hq) with ⟨v', e, hw⟩ | ⟨v', e, hw⟩ | ⟨v', -, e, -⟩
        · cases e
          exact lv_ldc hx hb hown (aTw hts hw) hd (kk H ls locs hP hz hl hS)
        · cases e
        · cases e
      · cases h
    · rename_i pl v hq
      split at h
      · rename_i hc
        cases h
        subst hc
        rcases hT.c _ (aLk_mem hq) with ⟨v', e, hw⟩ | ⟨v', e, hw⟩ | ⟨v', hv, e, ho, hi⟩
        · cases e
        · cases e
        · cases e
          have hz1 := hRo.2.2.2.2.1 v' hv
          have hk1 := kk H ls locs hP hz hl hS
          dsimp only at hk1
          rw [List.map_cons, aRef2 g v'] at hk1
          have hown2 : s.vm.findClass "NinePence$Text" = some m.cls := by rw [← ho]; exact hown
          rw [show i = aSix.getD v' 0 from hi] at hd
          exact va_ldcS hx hb hown2 hz1 hd hk1
      · cases h
    · cases h
  case ldc2_w i =>
    simp only [aIns] at h
    split at h
    · rename_i pl v hq
      split at h
      · rename_i hc
        cases h
        subst hc
        rcases hT.c _ (aLk_mem hq) with ⟨v', e, hw⟩ | ⟨v', e, hw⟩ | ⟨v', -, e, -⟩
        · cases e
        · cases e
          exact lv_ldc2 hx hb hown (aTw hts hw) hd (kk H ls locs hP hz hl hS)
        · cases e
      · cases h
    · cases h
  case getstatic i =>
    simp only [aIns] at h
    split at h
    · rename_i pl hq
      split at h
      · rename_i hc
        cases h
        subst hc
        rcases hT.s _ (aLk_mem hq) with ⟨-, hw⟩ | ⟨e, -⟩ | ⟨e, -⟩
        · exact va_gets hx hb hRo.2.1 hS hown (aTw hts hw) (fun _ h => h) hd (kk H ls locs hP hz hl hS)
        · cases e
        · cases e
      · cases h
    · rename_i pl hq
      split at h
      · rename_i hc
        cases h
        subst hc
        rcases hT.s _ (aLk_mem hq) with ⟨e, -⟩ | ⟨-, hw⟩ | ⟨e, -⟩
        · cases e
        · exact va_gets hx hb hRo.2.2.1 hS hown (aTw hts hw) (fun _ h => h) hd (kk H ls locs hP hz hl hS)
        · cases e
      · cases h
    · rename_i pl hq
      split at h
      · rename_i hc
        cases h
        subst hc
        rcases hT.s _ (aLk_mem hq) with ⟨e, -⟩ | ⟨e, -⟩ | ⟨-, hw⟩
        · cases e
        · cases e
        · exact va_gets hx hb hRo.2.2.2.2.2.2 hS hown (aTw hts hw) (fun _ h => h) hd (kk H ls locs hP hz hl hS)
      · cases h
    · cases h
  case getfield i =>
    simp only [aIns] at h
    split at h
    · rename_i pl ci j ty k r hq
      split at h
      · rename_i hc
        subst hc
        split at h
        · rename_i hk
          split at h
          · rename_i cj fs hly
            split at h
            · rename_i hcc
              subst hcc
              split at h
              · rename_i f hf
                cases h
                rcases hT.f _ (aLk_mem hq) with ⟨e0, -⟩ | ⟨⟨C, T, N⟩, hr, hj, hw, -⟩
                · exfalso
                  obtain ⟨q9, h9, -⟩ := hP k _ (aWs_at hly)
                  dsimp only at e0 h9
                  rw [e0] at h9
                  have : vwCl.length ≤ 100 := by decide
                  rw [List.getElem?_eq_none this] at h9
                  cases h9
                · dsimp only at hr hj hw
                  have hcm := aCls _ (List.mem_of_getElem? hr)
                  show W p l e R s m args below meth c H locs _ _ Q (F0 m pc ls (aCv g (.ref k) :: r.map (aCv g)))
                  rw [aCvR g hk]
                  exact va_get hx hb hts hcm.1 hown hK hP k (aWs_at hly) hr j hj (aTw hts hw) (fun _ h => h) (aObj_get hf) hd (kk H ls locs hP hz hl hS)
              · cases h
            · cases h
          · cases h
        · rename_i hk
          split at h
          · rename_i hcc
            cases h
            obtain ⟨e1, h2, h3⟩ := hcc
            subst e1
            show W p l e R s m args below meth c H locs _ _ Q (F0 m pc ls (aCv g (.ref k) :: r.map (aCv g)))
            obtain ⟨hb9, ek, ek9⟩ := aRefS g k h2 h3
            have hs4 := hRo.2.2.2.1.1 (k - 1002) hb9
            rw [ek]
            have hk1 := kk H ls locs hP hz hl hS
            dsimp only at hk1
            rcases hT.f _ (aLk_mem hq) with ⟨-, ⟨e0, hw⟩ | ⟨e0, hw⟩⟩ | ⟨⟨C, T, N⟩, hr, -⟩
            · dsimp only at e0
              rw [if_pos e0] at hk1
              exact vk_getf hx hb hs4.2.1 hS hown (aTw hts hw) (fun _ h => h) hd hk1
            · dsimp only at e0
              rw [if_neg (by rw [e0]; decide), List.map_cons, ek9] at hk1
              exact vk_getf hx hb hs4.2.2.1 hS hown (aTw hts hw) (fun _ h => h) hd hk1
            · exfalso
              have : vwCl.length ≤ 100 := by decide
              dsimp only at hr
              rw [List.getElem?_eq_none this] at hr
              cases hr
          · cases h
      · cases h
    · cases h
  case putfield i =>
    simp only [aIns] at h
    split at h
    · rename_i pl ci j ty v k r hq
      split at h
      · rename_i hc
        obtain ⟨hc, hk, hpo⟩ := hc
        subst hc
        split at h
        · rename_i cj fs C T N hly hcl
          split at h
          · rename_i hcc
            obtain ⟨hcc, hfn⟩ := hcc
            subst hcc
            split at h
            · rename_i q hpq
              cases h
              rcases hT.f _ (aLk_mem hq) with ⟨e0, -⟩ | ⟨⟨C2, T2, N2⟩, hr, hj, hw, hty⟩
              · exfalso
                obtain ⟨q9, h9, -⟩ := hP k _ (aWs_at hly)
                dsimp only at e0 h9
                rw [e0] at h9
                have : vwCl.length ≤ 100 := by decide
                rw [List.getElem?_eq_none this] at h9
                cases h9
              · dsimp only at hr hj hw hty
                cases (hr : vwCl[ci]? = some (C2, T2, N2)).symm.trans (hcl : vwCl[ci]? = some (C, T, N))
                have hcm := aCls _ (List.mem_of_getElem? hr)
                show W p l e R s m args below meth c H locs _ _ Q (F0 m pc ls (aCv g v :: aCv g (.ref k) :: r.map (aCv g)))
                rw [aCvR g hk]
                obtain ⟨hjl, hws, hll⟩ := aPut_ws (g := g) hly hpq
                obtain ⟨hnr, hft⟩ := aPut_ok g hpo
                have hjl2 : j < (fs.mapIdx (fun j f => aCv g (aFv S k j f))).length := by simpa using hjl
                have hfn2 : (T j).2.2.2 = false ∨ (meth.name = "<init>" ∧ (T j).1 = M.1) := hfn.imp (fun h => h) (fun h => ⟨hini h.1, h.2⟩)
                refine aPutW hx hb hts hcm.1 _ hcm.2.1 hcm.2.2 hown hK hP (aD g lay S) hS k (aWs_at hly) hr j hj (aTw hts hw) hfn2 hty hnr hft hjl2 hd (fun H1 locs1 hP1 hz1 hS1 => ?_)
                rw [hws] at hP1
                exact kk H1 ls locs1 hP1 (by rw [hz1, hz]; dsimp only; rw [hll]) hl hS1
            · cases h
          · cases h
        · cases h
      · cases h
    · cases h
  case arraylength =>
    simp only [aIns] at h
    split at h
    · rename_i k r
      split at h
      · rename_i hc
        subst hc
        split at h
        · rename_i hk
          split at h
          · rename_i a hly
            split at h
            · rename_i ha2
              cases h
              show W p l e R s m args below meth c H locs _ _ Q (F0 m pc ls (aCv g (.ref k) :: r.map (aCv g)))
              rw [aCvR g hk]
              have ht : ∃ ty, (aTy g)[a.1]? = some (g.2.1 a.1, ty) := by
                obtain ⟨t, nn⟩ := a
                rcases t with _ | _ | t
                · exact ⟨_, rfl⟩
                · exact ⟨_, rfl⟩
                · exact absurd (show t + 1 + 1 < 2 from ha2) (by omega)
              obtain ⟨ty, ht⟩ := ht
              exact va_alen hx hb hK hP k a.1 (aWs_at hly) ht rfl hd (kk H ls locs hP hz hl hS)
            · cases h
          · cases h
        · rename_i hk
          split at h
          · rename_i hk2
            cases h
            subst hk2
            exact va_tlen hx hb hRo.1 hS (v := 7) rfl hd (kk H ls locs hP hz hl hS)
          · split at h
            · rename_i hk3
              cases h
              show W p l e R s m args below meth c H locs _ _ Q (F0 m pc ls (aCv g (.ref k) :: r.map (aCv g)))
              obtain ⟨hb9, ek⟩ := aRefB g k hk3.1 hk3.2
              rw [ek]
              exact va_tlen hx hb (hRo.2.2.2.1.1 (k - 1011) hb9).2.2.2 hS rfl hd (kk H ls locs hP hz hl hS)
            · cases h
      · cases h
    · cases h
  all_goals exact absurd (show (none : Option aCf) = some cf' from h) (by simp)
