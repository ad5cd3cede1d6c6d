/-! singles: which they are -/
def duC (S : aSt) (d : Nat) (V : Nat → Int32) : Prop := ∀ p, p < 6 → S.2.2 13 p = (if d.testBit p = true then 1 else 0) ∧ (d.testBit p = true → S.2.2 12 p = V p)
def duR (S : aSt) (d : Nat) (V : Nat → Int32) : Prop := S.1 42 7 = nI d ∧ ∀ p, p < 6 → d.testBit p = true → S.2.2 46 p = V p
theorem duC.fr {W : aWr} {S T : aSt} {d : Nat} {V : Nat → Int32} (h : duC S d V) (f : aFr W S T) (q : 13 ∉ W.2.2 ∧ 12 ∉ W.2.2) : duC T d V := by
  unfold duC
  rw [f.2.2 _ q.1, f.2.2 _ q.2]
  exact h
theorem duR.fr {W : aWr} {S T : aSt} {d : Nat} {V : Nat → Int32} (h : duR S d V) (f : aFr W S T) (q : (42, 7) ∉ W.1 ∧ 46 ∉ W.2.2) : duR T d V := by
  unfold duR
  rw [f.1 _ _ q.1, f.2.2 _ q.2]
  exact h
def pgx (D : Dt) (x : Sl) : Int32 := if x.1 = 5 then -1 else if x.1 = 6 then nI x.2.1 else D.2.1 (5 * x.2.1 + 4)
def nb (D : Dt) (d : Nat) (V : Nat → Int32) (x : Sl) (p : Nat) : Bool := !d.testBit p || decide (outS D.2.1 (nI p) D.1 + (if nI p = pgx D x then x.2.2.2.1 else 0) = V p)
def nbA (D : Dt) (d : Nat) (V : Nat → Int32) (x : Sl) : Nat → Bool
  | 0 => true
  | m + 1 => nbA D d V x m && nb D d V x m
def free (d : Nat) : Nat → Bool
  | 0 => false
  | m + 1 => free d m || !d.testBit m
def nar (D : Dt) (d : Nat) (V : Nat → Int32) (x : Sl) : Bool := nbA D d V x 6 && (decide (x.1 ≠ 5) || free d 6)
theorem nbA_false {D : Dt} {d : Nat} {V : Nat → Int32} {x : Sl} : ∀ {m n : Nat}, m ≤ n → nbA D d V x m = false → nbA D d V x n = false := by
  intro m n h
  induction n with
  | zero => intro h1; rw [show m = 0 by omega] at h1; exact h1
  | succ n ih =>
    intro h1
    by_cases c : m = n + 1
    · rw [← c]; exact h1
    · rw [nbA, ih (by omega) h1]; rfl
theorem nI_m1 {n : Nat} (h : n < 2 ^ 31) : ¬ nI n = (-1 : Int32) := by
  intro h0
  have := congrArg Int32.toInt h0
  rw [nI_toInt h, show (-1 : Int32).toInt = -1 from by decide] at this
  omega
/-- a slip of the list, as the class reads it -/
theorem c_slip {S : aSt} {L : List Sl} {i : Nat} (h : slC S L) (hl : L.length ≤ 1921) (hi : i < L.length) : X8_kind_14 (nI i) S = nI (L.getD i sl0).1 ∧ X8_place_14 (nI i) S = nI (L.getD i sl0).2.1 ∧ X6_at_17 (nI i) S = nI (L.getD i sl0).2.2.1 ∧ X8_change_14 (nI i) S = (L.getD i sl0).2.2.2.1 ∧ X8_weight_14 (nI i) S = nI (L.getD i sl0).2.2.2.2 := by
  obtain ⟨h1, h2, h3, h4, h5⟩ := h.2 i hi
  have a1 : ¬ nI i < 0 := nI_pos (by omega)
  have a2 : ¬ (1921 : Int32) ≤ nI i := iNLE 1921 i (by omega)
  have a3 : (nI i).toNatClampNeg = i := nI_clamp (by omega)
  refine ⟨?_, ?_, ?_, ?_, ?_⟩
  · unfold X8_kind_14 X6_at_15; simp only [aLet]; rw [if_neg a1, if_neg a2, a3, h1]
  · unfold X8_place_14 X6_at_16; simp only [aLet]; rw [if_neg a1, if_neg a2, a3, h2]
  · unfold X6_at_17; rw [if_neg a1, if_neg a2, a3, h3]
  · unfold X8_change_14 X6_at_18; simp only [aLet]; rw [if_neg a1, if_neg a2, a3, h4]
  · unfold X8_weight_14 X6_at_19; simp only [aLet]; rw [if_neg a1, if_neg a2, a3, h5]
/-- a slip of the list, as the reference reads it -/
theorem r_slip {S : aSt} {L : List Sl} {i : Nat} (h : slR S L) (hl : L.length ≤ 1921) (hi : i < L.length) : aIx (nI i) 2048 = true ∧ (nI i).toNatClampNeg = i ∧ S.2.2 50 i = nI (L.getD i sl0).1 ∧ S.2.2 51 i = nI (L.getD i sl0).2.1 ∧ S.2.2 52 i = nI (L.getD i sl0).2.2.1 ∧ S.2.2 53 i = (L.getD i sl0).2.2.2.1 ∧ S.2.2 54 i = nI (L.getD i sl0).2.2.2.2 := by
  obtain ⟨h1, h2, h3, h4, h5⟩ := h.2 i hi
  exact ⟨m_ix (by omega) (by decide), nI_clamp (by omega), h1, h2, h3, h4, h5⟩
theorem c_pageOf {S : aSt} {D : Dt} {i : Nat} (h : slC S (SL D)) (hD : lgC S D) (ok : okD D) (hi : i < (SL D).length) : X8_pageOf_14 (nI i) S = pgx D ((SL D).getD i sl0) := by
  have hx := SL_ok ok (getD_mem (d := sl0) hi)
  obtain ⟨h1, h2, -, -, -⟩ := c_slip h (SL_len ok) hi
  generalize (SL D).getD i sl0 = x at *
  unfold X8_pageOf_14 pgx
  simp only [aLet]
  rw [h1, h2]
  by_cases c5 : x.1 = 5
  · rw [if_pos (by rw [c5]; rfl), if_pos c5]
  · rw [if_neg (by exact iNE x.1 5 c5 rfl rfl hx.1.1), if_neg c5]
    by_cases c6 : x.1 = 6
    · rw [if_pos (by rw [c6]; rfl), if_pos c6]
    · rw [if_neg (by exact iNE x.1 6 c6 rfl rfl hx.1.1), if_neg c6]
      exact c_told (w := 4) hD ok (hx.2.2.2.2.1 (by have := hx.2.2.2.2.2.1; omega)) (by omega)
theorem pgx_m1 {D : Dt} {x : Sl} (ok : okD D) (hx : okT D x) : pgx D x = -1 ↔ x.1 = 5 := by
  unfold pgx
  by_cases c5 : x.1 = 5
  · rw [if_pos c5]; exact ⟨fun _ => c5, fun _ => rfl⟩
  · rw [if_neg c5]
    refine ⟨fun h => ?_, fun h => absurd h c5⟩
    exfalso
    by_cases c6 : x.1 = 6
    · rw [if_pos c6] at h; exact nI_m1 hx.1.2.1 h
    · rw [if_neg c6] at h
      obtain ⟨n, n1, n2⟩ := (ok.2.1 x.2.1 (hx.2.2.2.2.1 (by have := hx.2.2.2.2.2.1; omega))).2.2.2.2
      rw [n2] at h
      exact nI_m1 (by omega) h
theorem c_hasDue {S : aSt} {d p : Nat} {V : Nat → Int32} (h : duC S d V) (hp : p < 6) : X2_hasDue_8 (nI p) S = if d.testBit p = true then 1 else 0 := by
  unfold X2_hasDue_8
  rw [if_neg (nI_pos (by omega)), if_neg (by exact iNLE 6 p hp), nI_clamp (by omega), (h p hp).1]
  split <;> rfl
theorem c_dueOf {S : aSt} {d p : Nat} {V : Nat → Int32} (h : duC S d V) (hp : p < 6) (hb : d.testBit p = true) : X2_dueOf_8 (nI p) S = V p := by
  unfold X2_dueOf_8 X6_at_12
  simp only [aLet]
  rw [if_neg (nI_pos (by omega)), if_neg (by exact iNLE 6 p hp), nI_clamp (by omega), (h p hp).2 hb]
theorem r_hasDue {S : aSt} {d p : Nat} {V : Nat → Int32} (h : duR S d V) (hd : d < 64) (hp : p < 6) : X11_hasDue_42 (nI p) S = if d.testBit p = true then 1 else 0 := by
  unfold X11_hasDue_42
  rw [h.1]
  have key : ∀ d : Nat, d < 64 → ∀ p : Nat, p < 6 → (if ((nI d) >>> ((nI p) &&& 31)) &&& (1 : Int32) = 1 then (1 : Int32) else 0) = if d.testBit p = true then 1 else 0 := by decide +kernel
  exact key d hd p hp
theorem free_6 {d : Nat} (hd : d < 64) : free d 6 = decide (d ≠ 63) := by
  have key : ∀ d : Nat, d < 64 → free d 6 = decide (d ≠ 63) := by decide +kernel
  exact key d hd
def cond (D : Dt) (q : Sl → Bool) (i : Nat) : Bool := decide (((SL D).getD i sl0).2.2.2.1 = -oAll D) && q ((SL D).getD i sl0)
def SIx (D : Dt) (q : Sl → Bool) : Nat → List Nat
  | 0 => []
  | n + 1 => if cond D q n = true then SIx D q n ++ [n] else SIx D q n
def SI (D : Dt) (q : Sl → Bool) : List Nat := SIx D q (SL D).length
def wsum (D : Dt) (I : List Nat) : Nat := (I.map (fun i => ((SL D).getD i sl0).2.2.2.2)).sum
theorem wsum_app (D : Dt) (I : List Nat) (i : Nat) : wsum D (I ++ [i]) = wsum D I + ((SL D).getD i sl0).2.2.2.2 := by
  unfold wsum; rw [List.map_append, List.sum_append]; simp
theorem take_c {L : List Sl} {n : Nat} (h : n < L.length) : L.take (n + 1) = L.take n ++ [L.getD n sl0] := by
  rw [List.take_succ_eq_append_getElem h, List.getD_eq_getElem?_getD, List.getElem?_eq_getElem h]; rfl
theorem SIx_cw {D : Dt} {q : Sl → Bool} : ∀ {n : Nat}, n ≤ (SL D).length → (SIx D q n).length ≤ cw (-oAll D) ((SL D).take n)
  | 0, _ => by simp [SIx]
  | n + 1, h => by
    have ih := SIx_cw (D := D) (q := q) (n := n) (by omega)
    rw [take_c h, cw_app, SIx]
    unfold cond
    by_cases c : ((SL D).getD n sl0).2.2.2.1 = -oAll D
    · have : cw (-oAll D) [(SL D).getD n sl0] = 1 := by unfold cw; simp only [List.filter_cons, c, decide_true, if_true]; rfl
      rw [this]
      split
      · rw [List.length_append]; simp only [List.length_cons, List.length_nil]; omega
      · omega
    · rw [decide_eq_false c, Bool.false_and, if_neg (by decide)]
      omega
theorem SIx_157 {D : Dt} {q : Sl → Bool} (ok : okD D) {n : Nat} (h : n ≤ (SL D).length) : (SIx D q n).length ≤ 157 := by
  have h1 := SIx_cw (q := q) h
  have h2 := SL_cw ok (-oAll D)
  have h3 : cw (-oAll D) (SL D) = cw (-oAll D) ((SL D).take n) + cw (-oAll D) ((SL D).drop n) := by rw [← cw_app, List.take_append_drop]
  omega
theorem SIx_lt {D : Dt} {q : Sl → Bool} : ∀ {n : Nat} {i : Nat}, i ∈ SIx D q n → i < n ∧ cond D q i = true
  | 0, i, h => by simp [SIx] at h
  | n + 1, i, h => by
    rw [SIx] at h
    split at h
    · rcases List.mem_append.mp h with h | h
      · have := SIx_lt h; exact ⟨by omega, this.2⟩
      · rw [List.mem_singleton.mp h]; exact ⟨by omega, by assumption⟩
    · have := SIx_lt h; exact ⟨by omega, this.2⟩
